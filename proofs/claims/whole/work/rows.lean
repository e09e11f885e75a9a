section
-- ===== PART A: goes FIRST, ahead of the names: the tables' words, and 'selects' of the private methods out of them =====
/-- a private method of a class that the tables say can be made, by its rows of tables_1 -/
def lw_okq (q : MethodName × Nat) : Prop := (q.1.cls ≠ "java/lang/invoke/MethodHandle" ∧ q.1.cls ≠ "java/lang/invoke/VarHandle") ∧ Cond.instantiable q.1.cls q.2 ∈ tables_1 ∧ Cond.privateMethod q.1 ∈ tables_1 ∧ Cond.instanceMethod q.1 ∈ tables_1
theorem lw_p0 : lw_okq (⟨"RestingBlocks$Text", "skipBlanks", "()V"⟩, 3) := ⟨⟨by decide +kernel, by decide +kernel⟩, List.mem_of_getElem? (i := 97) (by decide +kernel), List.mem_of_getElem? (i := 194) (by decide +kernel), List.mem_of_getElem? (i := 195) (by decide +kernel)⟩
theorem lw_p1 : lw_okq (⟨"RestingBlocks$Text", "next", "()I"⟩, 3) := ⟨⟨by decide +kernel, by decide +kernel⟩, List.mem_of_getElem? (i := 97) (by decide +kernel), List.mem_of_getElem? (i := 198) (by decide +kernel), List.mem_of_getElem? (i := 199) (by decide +kernel)⟩
theorem lw_p2 : lw_okq (⟨"RestingBlocks$Text", "readItem", "(LRestingBlocks$Pile;)Z"⟩, 3) := ⟨⟨by decide +kernel, by decide +kernel⟩, List.mem_of_getElem? (i := 97) (by decide +kernel), List.mem_of_getElem? (i := 202) (by decide +kernel), List.mem_of_getElem? (i := 203) (by decide +kernel)⟩
theorem lw_p3 : lw_okq (⟨"RestingBlocks$Text", "readBlock", "(LRestingBlocks$Pile;)Z"⟩, 3) := ⟨⟨by decide +kernel, by decide +kernel⟩, List.mem_of_getElem? (i := 97) (by decide +kernel), List.mem_of_getElem? (i := 206) (by decide +kernel), List.mem_of_getElem? (i := 207) (by decide +kernel)⟩
theorem lw_p4 : lw_okq (⟨"RestingBlocks$Text", "readNumber", "(II)I"⟩, 3) := ⟨⟨by decide +kernel, by decide +kernel⟩, List.mem_of_getElem? (i := 97) (by decide +kernel), List.mem_of_getElem? (i := 214) (by decide +kernel), List.mem_of_getElem? (i := 215) (by decide +kernel)⟩
theorem lw_p5 : lw_okq (⟨"RestingBlocks$Text", "readEnd", "()Z"⟩, 3) := ⟨⟨by decide +kernel, by decide +kernel⟩, List.mem_of_getElem? (i := 97) (by decide +kernel), List.mem_of_getElem? (i := 225) (by decide +kernel), List.mem_of_getElem? (i := 226) (by decide +kernel)⟩
theorem lw_p6 : lw_okq (⟨"RestingBlocks$Text", "readLoad", "(LRestingBlocks$Pile;)Z"⟩, 3) := ⟨⟨by decide +kernel, by decide +kernel⟩, List.mem_of_getElem? (i := 97) (by decide +kernel), List.mem_of_getElem? (i := 243) (by decide +kernel), List.mem_of_getElem? (i := 244) (by decide +kernel)⟩
theorem lw_p7 : lw_okq (⟨"RestingBlocks", "remember", "()V"⟩, 9) := ⟨⟨by decide +kernel, by decide +kernel⟩, List.mem_of_getElem? (i := 12) (by decide +kernel), List.mem_of_getElem? (i := 256) (by decide +kernel), List.mem_of_getElem? (i := 257) (by decide +kernel)⟩
theorem lw_p8 : lw_okq (⟨"RestingBlocks$Layout", "findLevel", "(I)V"⟩, 10) := ⟨⟨by decide +kernel, by decide +kernel⟩, List.mem_of_getElem? (i := 32) (by decide +kernel), List.mem_of_getElem? (i := 293) (by decide +kernel), List.mem_of_getElem? (i := 294) (by decide +kernel)⟩
theorem lw_p9 : lw_okq (⟨"RestingBlocks$Layout", "overlap", "(II)Z"⟩, 10) := ⟨⟨by decide +kernel, by decide +kernel⟩, List.mem_of_getElem? (i := 32) (by decide +kernel), List.mem_of_getElem? (i := 297) (by decide +kernel), List.mem_of_getElem? (i := 298) (by decide +kernel)⟩
theorem lw_p10 : lw_okq (⟨"RestingBlocks$Layout", "findUnder", "(I)V"⟩, 10) := ⟨⟨by decide +kernel, by decide +kernel⟩, List.mem_of_getElem? (i := 32) (by decide +kernel), List.mem_of_getElem? (i := 302) (by decide +kernel), List.mem_of_getElem? (i := 303) (by decide +kernel)⟩
theorem lw_p11 : lw_okq (⟨"RestingBlocks$Layout", "findContacts", "(I)V"⟩, 10) := ⟨⟨by decide +kernel, by decide +kernel⟩, List.mem_of_getElem? (i := 32) (by decide +kernel), List.mem_of_getElem? (i := 306) (by decide +kernel), List.mem_of_getElem? (i := 307) (by decide +kernel)⟩
theorem lw_p12 : lw_okq (⟨"RestingBlocks$Layout", "addContact", "(III)V"⟩, 10) := ⟨⟨by decide +kernel, by decide +kernel⟩, List.mem_of_getElem? (i := 32) (by decide +kernel), List.mem_of_getElem? (i := 310) (by decide +kernel), List.mem_of_getElem? (i := 311) (by decide +kernel)⟩
theorem lw_p13 : lw_okq (⟨"RestingBlocks", "isSpot", "(II)Z"⟩, 9) := ⟨⟨by decide +kernel, by decide +kernel⟩, List.mem_of_getElem? (i := 12) (by decide +kernel), List.mem_of_getElem? (i := 342) (by decide +kernel), List.mem_of_getElem? (i := 343) (by decide +kernel)⟩
theorem lw_p14 : lw_okq (⟨"RestingBlocks", "isBalanced", "(LRestingBlocks$Pile;I)Z"⟩, 9) := ⟨⟨by decide +kernel, by decide +kernel⟩, List.mem_of_getElem? (i := 12) (by decide +kernel), List.mem_of_getElem? (i := 386) (by decide +kernel), List.mem_of_getElem? (i := 387) (by decide +kernel)⟩
theorem lw_p15 : lw_okq (⟨"RestingBlocks$Balance", "poseBlock", "(LRestingBlocks$Pile;LRestingBlocks$Layout;I)V"⟩, 6) := ⟨⟨by decide +kernel, by decide +kernel⟩, List.mem_of_getElem? (i := 69) (by decide +kernel), List.mem_of_getElem? (i := 397) (by decide +kernel), List.mem_of_getElem? (i := 398) (by decide +kernel)⟩
def lw_privs_1 : List (MethodName × Nat) := [(⟨"RestingBlocks$Text", "skipBlanks", "()V"⟩, 3), (⟨"RestingBlocks$Text", "next", "()I"⟩, 3), (⟨"RestingBlocks$Text", "readItem", "(LRestingBlocks$Pile;)Z"⟩, 3), (⟨"RestingBlocks$Text", "readBlock", "(LRestingBlocks$Pile;)Z"⟩, 3), (⟨"RestingBlocks$Text", "readNumber", "(II)I"⟩, 3), (⟨"RestingBlocks$Text", "readEnd", "()Z"⟩, 3), (⟨"RestingBlocks$Text", "readLoad", "(LRestingBlocks$Pile;)Z"⟩, 3), (⟨"RestingBlocks", "remember", "()V"⟩, 9), (⟨"RestingBlocks$Layout", "findLevel", "(I)V"⟩, 10), (⟨"RestingBlocks$Layout", "overlap", "(II)Z"⟩, 10), (⟨"RestingBlocks$Layout", "findUnder", "(I)V"⟩, 10), (⟨"RestingBlocks$Layout", "findContacts", "(I)V"⟩, 10), (⟨"RestingBlocks$Layout", "addContact", "(III)V"⟩, 10), (⟨"RestingBlocks", "isSpot", "(II)Z"⟩, 9), (⟨"RestingBlocks", "isBalanced", "(LRestingBlocks$Pile;I)Z"⟩, 9), (⟨"RestingBlocks$Balance", "poseBlock", "(LRestingBlocks$Pile;LRestingBlocks$Layout;I)V"⟩, 6)]
theorem lw_r1 : ∀ q ∈ lw_privs_1, lw_okq q := List.forall_mem_cons.mpr ⟨lw_p0, List.forall_mem_cons.mpr ⟨lw_p1, List.forall_mem_cons.mpr ⟨lw_p2, List.forall_mem_cons.mpr ⟨lw_p3, List.forall_mem_cons.mpr ⟨lw_p4, List.forall_mem_cons.mpr ⟨lw_p5, List.forall_mem_cons.mpr ⟨lw_p6, List.forall_mem_cons.mpr ⟨lw_p7, List.forall_mem_cons.mpr ⟨lw_p8, List.forall_mem_cons.mpr ⟨lw_p9, List.forall_mem_cons.mpr ⟨lw_p10, List.forall_mem_cons.mpr ⟨lw_p11, List.forall_mem_cons.mpr ⟨lw_p12, List.forall_mem_cons.mpr ⟨lw_p13, List.forall_mem_cons.mpr ⟨lw_p14, List.forall_mem_cons.mpr ⟨lw_p15, fun _ h => absurd h List.not_mem_nil⟩⟩⟩⟩⟩⟩⟩⟩⟩⟩⟩⟩⟩⟩⟩⟩
theorem lw_p16 : lw_okq (⟨"RestingBlocks$Balance", "firstThatLessensMakeshift", "()I"⟩, 6) := ⟨⟨by decide +kernel, by decide +kernel⟩, List.mem_of_getElem? (i := 69) (by decide +kernel), List.mem_of_getElem? (i := 410) (by decide +kernel), List.mem_of_getElem? (i := 411) (by decide +kernel)⟩
theorem lw_p17 : lw_okq (⟨"RestingBlocks$Balance", "makeshift", "(I)J"⟩, 6) := ⟨⟨by decide +kernel, by decide +kernel⟩, List.mem_of_getElem? (i := 69) (by decide +kernel), List.mem_of_getElem? (i := 414) (by decide +kernel), List.mem_of_getElem? (i := 415) (by decide +kernel)⟩
theorem lw_p18 : lw_okq (⟨"RestingBlocks$Balance", "leavingRow", "(I)I"⟩, 6) := ⟨⟨by decide +kernel, by decide +kernel⟩, List.mem_of_getElem? (i := 69) (by decide +kernel), List.mem_of_getElem? (i := 418) (by decide +kernel), List.mem_of_getElem? (i := 419) (by decide +kernel)⟩
theorem lw_p19 : lw_okq (⟨"RestingBlocks$Balance", "leavesAhead", "(III)Z"⟩, 6) := ⟨⟨by decide +kernel, by decide +kernel⟩, List.mem_of_getElem? (i := 69) (by decide +kernel), List.mem_of_getElem? (i := 422) (by decide +kernel), List.mem_of_getElem? (i := 423) (by decide +kernel)⟩
theorem lw_p20 : lw_okq (⟨"RestingBlocks$Balance", "pivot", "(II)V"⟩, 6) := ⟨⟨by decide +kernel, by decide +kernel⟩, List.mem_of_getElem? (i := 69) (by decide +kernel), List.mem_of_getElem? (i := 426) (by decide +kernel), List.mem_of_getElem? (i := 427) (by decide +kernel)⟩
theorem lw_p21 : lw_okq (⟨"RestingBlocks$Balance", "turnSigns", "(I)V"⟩, 6) := ⟨⟨by decide +kernel, by decide +kernel⟩, List.mem_of_getElem? (i := 69) (by decide +kernel), List.mem_of_getElem? (i := 430) (by decide +kernel), List.mem_of_getElem? (i := 431) (by decide +kernel)⟩
theorem lw_p22 : lw_okq (⟨"RestingBlocks$Balance", "clearBy", "(III)V"⟩, 6) := ⟨⟨by decide +kernel, by decide +kernel⟩, List.mem_of_getElem? (i := 69) (by decide +kernel), List.mem_of_getElem? (i := 434) (by decide +kernel), List.mem_of_getElem? (i := 435) (by decide +kernel)⟩
theorem lw_p23 : lw_okq (⟨"RestingBlocks$Balance", "driveOutMakeshift", "()V"⟩, 6) := ⟨⟨by decide +kernel, by decide +kernel⟩, List.mem_of_getElem? (i := 69) (by decide +kernel), List.mem_of_getElem? (i := 438) (by decide +kernel), List.mem_of_getElem? (i := 439) (by decide +kernel)⟩
theorem lw_p24 : lw_okq (⟨"RestingBlocks", "extreme", "(II)J"⟩, 9) := ⟨⟨by decide +kernel, by decide +kernel⟩, List.mem_of_getElem? (i := 12) (by decide +kernel), List.mem_of_getElem? (i := 447) (by decide +kernel), List.mem_of_getElem? (i := 448) (by decide +kernel)⟩
theorem lw_p25 : lw_okq (⟨"RestingBlocks$Balance", "rowThatGives", "(I)I"⟩, 6) := ⟨⟨by decide +kernel, by decide +kernel⟩, List.mem_of_getElem? (i := 69) (by decide +kernel), List.mem_of_getElem? (i := 456) (by decide +kernel), List.mem_of_getElem? (i := 457) (by decide +kernel)⟩
theorem lw_p26 : lw_okq (⟨"RestingBlocks$Balance", "firstOfSign", "(III)I"⟩, 6) := ⟨⟨by decide +kernel, by decide +kernel⟩, List.mem_of_getElem? (i := 69) (by decide +kernel), List.mem_of_getElem? (i := 460) (by decide +kernel), List.mem_of_getElem? (i := 461) (by decide +kernel)⟩
theorem lw_p27 : lw_okq (⟨"RestingBlocks", "restsWithout", "(I)Z"⟩, 9) := ⟨⟨by decide +kernel, by decide +kernel⟩, List.mem_of_getElem? (i := 12) (by decide +kernel), List.mem_of_getElem? (i := 505) (by decide +kernel), List.mem_of_getElem? (i := 506) (by decide +kernel)⟩
theorem lw_p28 : lw_okq (⟨"RestingBlocksModel", "lays", "([II)V"⟩, 27) := ⟨⟨by decide +kernel, by decide +kernel⟩, List.mem_of_getElem? (i := 540) (by decide +kernel), List.mem_of_getElem? (i := 643) (by decide +kernel), List.mem_of_getElem? (i := 644) (by decide +kernel)⟩
theorem lw_p29 : lw_okq (⟨"RestingBlocksModel", "reads", "()Z"⟩, 27) := ⟨⟨by decide +kernel, by decide +kernel⟩, List.mem_of_getElem? (i := 540) (by decide +kernel), List.mem_of_getElem? (i := 647) (by decide +kernel), List.mem_of_getElem? (i := 648) (by decide +kernel)⟩
theorem lw_p30 : lw_okq (⟨"RestingBlocksModel", "skips", "()V"⟩, 27) := ⟨⟨by decide +kernel, by decide +kernel⟩, List.mem_of_getElem? (i := 540) (by decide +kernel), List.mem_of_getElem? (i := 651) (by decide +kernel), List.mem_of_getElem? (i := 652) (by decide +kernel)⟩
theorem lw_p31 : lw_okq (⟨"RestingBlocksModel", "passes", "(I)Z"⟩, 27) := ⟨⟨by decide +kernel, by decide +kernel⟩, List.mem_of_getElem? (i := 540) (by decide +kernel), List.mem_of_getElem? (i := 655) (by decide +kernel), List.mem_of_getElem? (i := 656) (by decide +kernel)⟩
def lw_privs_2 : List (MethodName × Nat) := [(⟨"RestingBlocks$Balance", "firstThatLessensMakeshift", "()I"⟩, 6), (⟨"RestingBlocks$Balance", "makeshift", "(I)J"⟩, 6), (⟨"RestingBlocks$Balance", "leavingRow", "(I)I"⟩, 6), (⟨"RestingBlocks$Balance", "leavesAhead", "(III)Z"⟩, 6), (⟨"RestingBlocks$Balance", "pivot", "(II)V"⟩, 6), (⟨"RestingBlocks$Balance", "turnSigns", "(I)V"⟩, 6), (⟨"RestingBlocks$Balance", "clearBy", "(III)V"⟩, 6), (⟨"RestingBlocks$Balance", "driveOutMakeshift", "()V"⟩, 6), (⟨"RestingBlocks", "extreme", "(II)J"⟩, 9), (⟨"RestingBlocks$Balance", "rowThatGives", "(I)I"⟩, 6), (⟨"RestingBlocks$Balance", "firstOfSign", "(III)I"⟩, 6), (⟨"RestingBlocks", "restsWithout", "(I)Z"⟩, 9), (⟨"RestingBlocksModel", "lays", "([II)V"⟩, 27), (⟨"RestingBlocksModel", "reads", "()Z"⟩, 27), (⟨"RestingBlocksModel", "skips", "()V"⟩, 27), (⟨"RestingBlocksModel", "passes", "(I)Z"⟩, 27)]
theorem lw_r2 : ∀ q ∈ lw_privs_2, lw_okq q := List.forall_mem_cons.mpr ⟨lw_p16, List.forall_mem_cons.mpr ⟨lw_p17, List.forall_mem_cons.mpr ⟨lw_p18, List.forall_mem_cons.mpr ⟨lw_p19, List.forall_mem_cons.mpr ⟨lw_p20, List.forall_mem_cons.mpr ⟨lw_p21, List.forall_mem_cons.mpr ⟨lw_p22, List.forall_mem_cons.mpr ⟨lw_p23, List.forall_mem_cons.mpr ⟨lw_p24, List.forall_mem_cons.mpr ⟨lw_p25, List.forall_mem_cons.mpr ⟨lw_p26, List.forall_mem_cons.mpr ⟨lw_p27, List.forall_mem_cons.mpr ⟨lw_p28, List.forall_mem_cons.mpr ⟨lw_p29, List.forall_mem_cons.mpr ⟨lw_p30, List.forall_mem_cons.mpr ⟨lw_p31, fun _ h => absurd h List.not_mem_nil⟩⟩⟩⟩⟩⟩⟩⟩⟩⟩⟩⟩⟩⟩⟩⟩
theorem lw_p32 : lw_okq (⟨"RestingBlocksModel", "readsBlock", "()Z"⟩, 27) := ⟨⟨by decide +kernel, by decide +kernel⟩, List.mem_of_getElem? (i := 540) (by decide +kernel), List.mem_of_getElem? (i := 659) (by decide +kernel), List.mem_of_getElem? (i := 660) (by decide +kernel)⟩
theorem lw_p33 : lw_okq (⟨"RestingBlocksModel", "number", "(II)I"⟩, 27) := ⟨⟨by decide +kernel, by decide +kernel⟩, List.mem_of_getElem? (i := 540) (by decide +kernel), List.mem_of_getElem? (i := 663) (by decide +kernel), List.mem_of_getElem? (i := 664) (by decide +kernel)⟩
theorem lw_p34 : lw_okq (⟨"RestingBlocksModel", "isFigure", "()Z"⟩, 27) := ⟨⟨by decide +kernel, by decide +kernel⟩, List.mem_of_getElem? (i := 540) (by decide +kernel), List.mem_of_getElem? (i := 667) (by decide +kernel), List.mem_of_getElem? (i := 668) (by decide +kernel)⟩
theorem lw_p35 : lw_okq (⟨"RestingBlocksModel", "appends", "(III)V"⟩, 27) := ⟨⟨by decide +kernel, by decide +kernel⟩, List.mem_of_getElem? (i := 540) (by decide +kernel), List.mem_of_getElem? (i := 671) (by decide +kernel), List.mem_of_getElem? (i := 672) (by decide +kernel)⟩
theorem lw_p36 : lw_okq (⟨"RestingBlocksModel", "readsLoad", "()Z"⟩, 27) := ⟨⟨by decide +kernel, by decide +kernel⟩, List.mem_of_getElem? (i := 540) (by decide +kernel), List.mem_of_getElem? (i := 675) (by decide +kernel), List.mem_of_getElem? (i := 676) (by decide +kernel)⟩
theorem lw_p37 : lw_okq (⟨"RestingBlocksModel", "get", "(II)I"⟩, 27) := ⟨⟨by decide +kernel, by decide +kernel⟩, List.mem_of_getElem? (i := 540) (by decide +kernel), List.mem_of_getElem? (i := 679) (by decide +kernel), List.mem_of_getElem? (i := 680) (by decide +kernel)⟩
theorem lw_p38 : lw_okq (⟨"RestingBlocksModel", "takes", "([II)V"⟩, 27) := ⟨⟨by decide +kernel, by decide +kernel⟩, List.mem_of_getElem? (i := 540) (by decide +kernel), List.mem_of_getElem? (i := 683) (by decide +kernel), List.mem_of_getElem? (i := 684) (by decide +kernel)⟩
theorem lw_p39 : lw_okq (⟨"RestingBlocksModel", "keeps", "()V"⟩, 27) := ⟨⟨by decide +kernel, by decide +kernel⟩, List.mem_of_getElem? (i := 540) (by decide +kernel), List.mem_of_getElem? (i := 687) (by decide +kernel), List.mem_of_getElem? (i := 688) (by decide +kernel)⟩
theorem lw_p40 : lw_okq (⟨"RestingBlocksModel", "layAll", "()V"⟩, 27) := ⟨⟨by decide +kernel, by decide +kernel⟩, List.mem_of_getElem? (i := 540) (by decide +kernel), List.mem_of_getElem? (i := 698) (by decide +kernel), List.mem_of_getElem? (i := 699) (by decide +kernel)⟩
theorem lw_p41 : lw_okq (⟨"RestingBlocksModel", "many", "()I"⟩, 27) := ⟨⟨by decide +kernel, by decide +kernel⟩, List.mem_of_getElem? (i := 540) (by decide +kernel), List.mem_of_getElem? (i := 702) (by decide +kernel), List.mem_of_getElem? (i := 703) (by decide +kernel)⟩
theorem lw_p42 : lw_okq (⟨"RestingBlocksModel", "layBlock", "(I)V"⟩, 27) := ⟨⟨by decide +kernel, by decide +kernel⟩, List.mem_of_getElem? (i := 540) (by decide +kernel), List.mem_of_getElem? (i := 706) (by decide +kernel), List.mem_of_getElem? (i := 707) (by decide +kernel)⟩
theorem lw_p43 : lw_okq (⟨"RestingBlocksModel", "doOverlap", "(II)Z"⟩, 27) := ⟨⟨by decide +kernel, by decide +kernel⟩, List.mem_of_getElem? (i := 540) (by decide +kernel), List.mem_of_getElem? (i := 710) (by decide +kernel), List.mem_of_getElem? (i := 711) (by decide +kernel)⟩
theorem lw_p44 : lw_okq (⟨"RestingBlocksModel", "from", "(II)I"⟩, 27) := ⟨⟨by decide +kernel, by decide +kernel⟩, List.mem_of_getElem? (i := 540) (by decide +kernel), List.mem_of_getElem? (i := 714) (by decide +kernel), List.mem_of_getElem? (i := 715) (by decide +kernel)⟩
theorem lw_p45 : lw_okq (⟨"RestingBlocksModel", "to", "(II)I"⟩, 27) := ⟨⟨by decide +kernel, by decide +kernel⟩, List.mem_of_getElem? (i := 540) (by decide +kernel), List.mem_of_getElem? (i := 718) (by decide +kernel), List.mem_of_getElem? (i := 719) (by decide +kernel)⟩
theorem lw_p46 : lw_okq (⟨"RestingBlocksModel", "end", "(I)I"⟩, 27) := ⟨⟨by decide +kernel, by decide +kernel⟩, List.mem_of_getElem? (i := 540) (by decide +kernel), List.mem_of_getElem? (i := 722) (by decide +kernel), List.mem_of_getElem? (i := 723) (by decide +kernel)⟩
theorem lw_p47 : lw_okq (⟨"RestingBlocksModel", "touches", "(III)V"⟩, 27) := ⟨⟨by decide +kernel, by decide +kernel⟩, List.mem_of_getElem? (i := 540) (by decide +kernel), List.mem_of_getElem? (i := 726) (by decide +kernel), List.mem_of_getElem? (i := 727) (by decide +kernel)⟩
def lw_privs_3 : List (MethodName × Nat) := [(⟨"RestingBlocksModel", "readsBlock", "()Z"⟩, 27), (⟨"RestingBlocksModel", "number", "(II)I"⟩, 27), (⟨"RestingBlocksModel", "isFigure", "()Z"⟩, 27), (⟨"RestingBlocksModel", "appends", "(III)V"⟩, 27), (⟨"RestingBlocksModel", "readsLoad", "()Z"⟩, 27), (⟨"RestingBlocksModel", "get", "(II)I"⟩, 27), (⟨"RestingBlocksModel", "takes", "([II)V"⟩, 27), (⟨"RestingBlocksModel", "keeps", "()V"⟩, 27), (⟨"RestingBlocksModel", "layAll", "()V"⟩, 27), (⟨"RestingBlocksModel", "many", "()I"⟩, 27), (⟨"RestingBlocksModel", "layBlock", "(I)V"⟩, 27), (⟨"RestingBlocksModel", "doOverlap", "(II)Z"⟩, 27), (⟨"RestingBlocksModel", "from", "(II)I"⟩, 27), (⟨"RestingBlocksModel", "to", "(II)I"⟩, 27), (⟨"RestingBlocksModel", "end", "(I)I"⟩, 27), (⟨"RestingBlocksModel", "touches", "(III)V"⟩, 27)]
theorem lw_r3 : ∀ q ∈ lw_privs_3, lw_okq q := List.forall_mem_cons.mpr ⟨lw_p32, List.forall_mem_cons.mpr ⟨lw_p33, List.forall_mem_cons.mpr ⟨lw_p34, List.forall_mem_cons.mpr ⟨lw_p35, List.forall_mem_cons.mpr ⟨lw_p36, List.forall_mem_cons.mpr ⟨lw_p37, List.forall_mem_cons.mpr ⟨lw_p38, List.forall_mem_cons.mpr ⟨lw_p39, List.forall_mem_cons.mpr ⟨lw_p40, List.forall_mem_cons.mpr ⟨lw_p41, List.forall_mem_cons.mpr ⟨lw_p42, List.forall_mem_cons.mpr ⟨lw_p43, List.forall_mem_cons.mpr ⟨lw_p44, List.forall_mem_cons.mpr ⟨lw_p45, List.forall_mem_cons.mpr ⟨lw_p46, List.forall_mem_cons.mpr ⟨lw_p47, fun _ h => absurd h List.not_mem_nil⟩⟩⟩⟩⟩⟩⟩⟩⟩⟩⟩⟩⟩⟩⟩⟩
theorem lw_p48 : lw_okq (⟨"RestingBlocksModel", "isBlock", "(I)Z"⟩, 27) := ⟨⟨by decide +kernel, by decide +kernel⟩, List.mem_of_getElem? (i := 540) (by decide +kernel), List.mem_of_getElem? (i := 734) (by decide +kernel), List.mem_of_getElem? (i := 735) (by decide +kernel)⟩
theorem lw_p49 : lw_okq (⟨"RestingBlocksModel", "above", "(I)I"⟩, 27) := ⟨⟨by decide +kernel, by decide +kernel⟩, List.mem_of_getElem? (i := 540) (by decide +kernel), List.mem_of_getElem? (i := 738) (by decide +kernel), List.mem_of_getElem? (i := 739) (by decide +kernel)⟩
theorem lw_p50 : lw_okq (⟨"RestingBlocksModel", "removes", "(I)V"⟩, 27) := ⟨⟨by decide +kernel, by decide +kernel⟩, List.mem_of_getElem? (i := 540) (by decide +kernel), List.mem_of_getElem? (i := 745) (by decide +kernel), List.mem_of_getElem? (i := 746) (by decide +kernel)⟩
theorem lw_p51 : lw_okq (⟨"RestingBlocksModel", "isSpot", "(II)Z"⟩, 27) := ⟨⟨by decide +kernel, by decide +kernel⟩, List.mem_of_getElem? (i := 540) (by decide +kernel), List.mem_of_getElem? (i := 757) (by decide +kernel), List.mem_of_getElem? (i := 758) (by decide +kernel)⟩
theorem lw_p52 : lw_okq (⟨"RestingBlocksModel", "tellBlock", "(II)I"⟩, 27) := ⟨⟨by decide +kernel, by decide +kernel⟩, List.mem_of_getElem? (i := 540) (by decide +kernel), List.mem_of_getElem? (i := 769) (by decide +kernel), List.mem_of_getElem? (i := 770) (by decide +kernel)⟩
theorem lw_p53 : lw_okq (⟨"RestingBlocksModel", "isContact", "(I)Z"⟩, 27) := ⟨⟨by decide +kernel, by decide +kernel⟩, List.mem_of_getElem? (i := 540) (by decide +kernel), List.mem_of_getElem? (i := 777) (by decide +kernel), List.mem_of_getElem? (i := 778) (by decide +kernel)⟩
theorem lw_p54 : lw_okq (⟨"RestingBlocksModel", "isResting", "()Z"⟩, 27) := ⟨⟨by decide +kernel, by decide +kernel⟩, List.mem_of_getElem? (i := 540) (by decide +kernel), List.mem_of_getElem? (i := 785) (by decide +kernel), List.mem_of_getElem? (i := 786) (by decide +kernel)⟩
theorem lw_p55 : lw_okq (⟨"RestingBlocksModel", "all", "()I"⟩, 27) := ⟨⟨by decide +kernel, by decide +kernel⟩, List.mem_of_getElem? (i := 540) (by decide +kernel), List.mem_of_getElem? (i := 789) (by decide +kernel), List.mem_of_getElem? (i := 790) (by decide +kernel)⟩
theorem lw_p56 : lw_okq (⟨"RestingBlocksModel", "canBalance", "(I)Z"⟩, 27) := ⟨⟨by decide +kernel, by decide +kernel⟩, List.mem_of_getElem? (i := 540) (by decide +kernel), List.mem_of_getElem? (i := 793) (by decide +kernel), List.mem_of_getElem? (i := 794) (by decide +kernel)⟩
theorem lw_p57 : lw_okq (⟨"RestingBlocksModel", "layRows", "(IIIZ)V"⟩, 27) := ⟨⟨by decide +kernel, by decide +kernel⟩, List.mem_of_getElem? (i := 540) (by decide +kernel), List.mem_of_getElem? (i := 797) (by decide +kernel), List.mem_of_getElem? (i := 798) (by decide +kernel)⟩
theorem lw_p58 : lw_okq (⟨"RestingBlocksModel", "layRow", "(IIIIZ)V"⟩, 27) := ⟨⟨by decide +kernel, by decide +kernel⟩, List.mem_of_getElem? (i := 540) (by decide +kernel), List.mem_of_getElem? (i := 801) (by decide +kernel), List.mem_of_getElem? (i := 802) (by decide +kernel)⟩
theorem lw_p59 : lw_okq (⟨"RestingBlocksModel", "seeks", "(I)V"⟩, 27) := ⟨⟨by decide +kernel, by decide +kernel⟩, List.mem_of_getElem? (i := 540) (by decide +kernel), List.mem_of_getElem? (i := 806) (by decide +kernel), List.mem_of_getElem? (i := 807) (by decide +kernel)⟩
theorem lw_p60 : lw_okq (⟨"RestingBlocksModel", "solves", "(I)Z"⟩, 27) := ⟨⟨by decide +kernel, by decide +kernel⟩, List.mem_of_getElem? (i := 540) (by decide +kernel), List.mem_of_getElem? (i := 813) (by decide +kernel), List.mem_of_getElem? (i := 814) (by decide +kernel)⟩
theorem lw_p61 : lw_okq (⟨"RestingBlocksModel", "fills", "(I)V"⟩, 27) := ⟨⟨by decide +kernel, by decide +kernel⟩, List.mem_of_getElem? (i := 540) (by decide +kernel), List.mem_of_getElem? (i := 817) (by decide +kernel), List.mem_of_getElem? (i := 818) (by decide +kernel)⟩
theorem lw_p62 : lw_okq (⟨"RestingBlocksModel", "pivot", "(I)I"⟩, 27) := ⟨⟨by decide +kernel, by decide +kernel⟩, List.mem_of_getElem? (i := 540) (by decide +kernel), List.mem_of_getElem? (i := 821) (by decide +kernel), List.mem_of_getElem? (i := 822) (by decide +kernel)⟩
theorem lw_p63 : lw_okq (⟨"RestingBlocksModel", "swaps", "(II)V"⟩, 27) := ⟨⟨by decide +kernel, by decide +kernel⟩, List.mem_of_getElem? (i := 540) (by decide +kernel), List.mem_of_getElem? (i := 825) (by decide +kernel), List.mem_of_getElem? (i := 826) (by decide +kernel)⟩
def lw_privs_4 : List (MethodName × Nat) := [(⟨"RestingBlocksModel", "isBlock", "(I)Z"⟩, 27), (⟨"RestingBlocksModel", "above", "(I)I"⟩, 27), (⟨"RestingBlocksModel", "removes", "(I)V"⟩, 27), (⟨"RestingBlocksModel", "isSpot", "(II)Z"⟩, 27), (⟨"RestingBlocksModel", "tellBlock", "(II)I"⟩, 27), (⟨"RestingBlocksModel", "isContact", "(I)Z"⟩, 27), (⟨"RestingBlocksModel", "isResting", "()Z"⟩, 27), (⟨"RestingBlocksModel", "all", "()I"⟩, 27), (⟨"RestingBlocksModel", "canBalance", "(I)Z"⟩, 27), (⟨"RestingBlocksModel", "layRows", "(IIIZ)V"⟩, 27), (⟨"RestingBlocksModel", "layRow", "(IIIIZ)V"⟩, 27), (⟨"RestingBlocksModel", "seeks", "(I)V"⟩, 27), (⟨"RestingBlocksModel", "solves", "(I)Z"⟩, 27), (⟨"RestingBlocksModel", "fills", "(I)V"⟩, 27), (⟨"RestingBlocksModel", "pivot", "(I)I"⟩, 27), (⟨"RestingBlocksModel", "swaps", "(II)V"⟩, 27)]
theorem lw_r4 : ∀ q ∈ lw_privs_4, lw_okq q := List.forall_mem_cons.mpr ⟨lw_p48, List.forall_mem_cons.mpr ⟨lw_p49, List.forall_mem_cons.mpr ⟨lw_p50, List.forall_mem_cons.mpr ⟨lw_p51, List.forall_mem_cons.mpr ⟨lw_p52, List.forall_mem_cons.mpr ⟨lw_p53, List.forall_mem_cons.mpr ⟨lw_p54, List.forall_mem_cons.mpr ⟨lw_p55, List.forall_mem_cons.mpr ⟨lw_p56, List.forall_mem_cons.mpr ⟨lw_p57, List.forall_mem_cons.mpr ⟨lw_p58, List.forall_mem_cons.mpr ⟨lw_p59, List.forall_mem_cons.mpr ⟨lw_p60, List.forall_mem_cons.mpr ⟨lw_p61, List.forall_mem_cons.mpr ⟨lw_p62, List.forall_mem_cons.mpr ⟨lw_p63, fun _ h => absurd h List.not_mem_nil⟩⟩⟩⟩⟩⟩⟩⟩⟩⟩⟩⟩⟩⟩⟩⟩
theorem lw_p64 : lw_okq (⟨"RestingBlocksModel", "clears", "(IIJ)V"⟩, 27) := ⟨⟨by decide +kernel, by decide +kernel⟩, List.mem_of_getElem? (i := 540) (by decide +kernel), List.mem_of_getElem? (i := 829) (by decide +kernel), List.mem_of_getElem? (i := 830) (by decide +kernel)⟩
theorem lw_p65 : lw_okq (⟨"RestingBlocksModel", "isNoneBelow", "()Z"⟩, 27) := ⟨⟨by decide +kernel, by decide +kernel⟩, List.mem_of_getElem? (i := 540) (by decide +kernel), List.mem_of_getElem? (i := 833) (by decide +kernel), List.mem_of_getElem? (i := 834) (by decide +kernel)⟩
theorem lw_p66 : lw_okq (⟨"RestingBlocksModel", "divisor", "()J"⟩, 27) := ⟨⟨by decide +kernel, by decide +kernel⟩, List.mem_of_getElem? (i := 540) (by decide +kernel), List.mem_of_getElem? (i := 837) (by decide +kernel), List.mem_of_getElem? (i := 838) (by decide +kernel)⟩
theorem lw_p67 : lw_okq (⟨"RestingBlocksModel", "solved", "(II)J"⟩, 27) := ⟨⟨by decide +kernel, by decide +kernel⟩, List.mem_of_getElem? (i := 540) (by decide +kernel), List.mem_of_getElem? (i := 841) (by decide +kernel), List.mem_of_getElem? (i := 842) (by decide +kernel)⟩
theorem lw_p68 : lw_okq (⟨"RestingBlocksModel", "meets", "(JJ)V"⟩, 27) := ⟨⟨by decide +kernel, by decide +kernel⟩, List.mem_of_getElem? (i := 540) (by decide +kernel), List.mem_of_getElem? (i := 845) (by decide +kernel), List.mem_of_getElem? (i := 846) (by decide +kernel)⟩
theorem lw_p69 : lw_okq (⟨"RestingBlocksModel", "told", "(I)J"⟩, 27) := ⟨⟨by decide +kernel, by decide +kernel⟩, List.mem_of_getElem? (i := 540) (by decide +kernel), List.mem_of_getElem? (i := 853) (by decide +kernel), List.mem_of_getElem? (i := 854) (by decide +kernel)⟩
theorem lw_p70 : lw_okq (⟨"RestingBlocksModel", "restsWithout", "(I)Z"⟩, 27) := ⟨⟨by decide +kernel, by decide +kernel⟩, List.mem_of_getElem? (i := 540) (by decide +kernel), List.mem_of_getElem? (i := 878) (by decide +kernel), List.mem_of_getElem? (i := 879) (by decide +kernel)⟩
theorem lw_p71 : lw_okq (⟨"RestingBlocksModel", "contactsNow", "()I"⟩, 27) := ⟨⟨by decide +kernel, by decide +kernel⟩, List.mem_of_getElem? (i := 540) (by decide +kernel), List.mem_of_getElem? (i := 898) (by decide +kernel), List.mem_of_getElem? (i := 899) (by decide +kernel)⟩
theorem lw_p72 : lw_okq (⟨"RestingBlocksModel", "heavy", "()I"⟩, 27) := ⟨⟨by decide +kernel, by decide +kernel⟩, List.mem_of_getElem? (i := 540) (by decide +kernel), List.mem_of_getElem? (i := 902) (by decide +kernel), List.mem_of_getElem? (i := 903) (by decide +kernel)⟩
theorem lw_p73 : lw_okq (⟨"RestingBlocksModel", "highest", "()I"⟩, 27) := ⟨⟨by decide +kernel, by decide +kernel⟩, List.mem_of_getElem? (i := 540) (by decide +kernel), List.mem_of_getElem? (i := 906) (by decide +kernel), List.mem_of_getElem? (i := 907) (by decide +kernel)⟩
def lw_privs_5 : List (MethodName × Nat) := [(⟨"RestingBlocksModel", "clears", "(IIJ)V"⟩, 27), (⟨"RestingBlocksModel", "isNoneBelow", "()Z"⟩, 27), (⟨"RestingBlocksModel", "divisor", "()J"⟩, 27), (⟨"RestingBlocksModel", "solved", "(II)J"⟩, 27), (⟨"RestingBlocksModel", "meets", "(JJ)V"⟩, 27), (⟨"RestingBlocksModel", "told", "(I)J"⟩, 27), (⟨"RestingBlocksModel", "restsWithout", "(I)Z"⟩, 27), (⟨"RestingBlocksModel", "contactsNow", "()I"⟩, 27), (⟨"RestingBlocksModel", "heavy", "()I"⟩, 27), (⟨"RestingBlocksModel", "highest", "()I"⟩, 27)]
theorem lw_r5 : ∀ q ∈ lw_privs_5, lw_okq q := List.forall_mem_cons.mpr ⟨lw_p64, List.forall_mem_cons.mpr ⟨lw_p65, List.forall_mem_cons.mpr ⟨lw_p66, List.forall_mem_cons.mpr ⟨lw_p67, List.forall_mem_cons.mpr ⟨lw_p68, List.forall_mem_cons.mpr ⟨lw_p69, List.forall_mem_cons.mpr ⟨lw_p70, List.forall_mem_cons.mpr ⟨lw_p71, List.forall_mem_cons.mpr ⟨lw_p72, List.forall_mem_cons.mpr ⟨lw_p73, fun _ h => absurd h List.not_mem_nil⟩⟩⟩⟩⟩⟩⟩⟩⟩⟩
def lw_privs : List (MethodName × Nat) := lw_privs_1 ++ (lw_privs_2 ++ (lw_privs_3 ++ (lw_privs_4 ++ (lw_privs_5))))
def lw_tbl : List Cond := k2_sels lw_privs ++ tables_1
theorem lw_privs_ok : ∀ q ∈ lw_privs, lw_okq q := by
  show ∀ q ∈ lw_privs_1 ++ (lw_privs_2 ++ (lw_privs_3 ++ (lw_privs_4 ++ (lw_privs_5)))), lw_okq q
  exact List.forall_mem_append.mpr ⟨lw_r1, List.forall_mem_append.mpr ⟨lw_r2, List.forall_mem_append.mpr ⟨lw_r3, List.forall_mem_append.mpr ⟨lw_r4, lw_r5⟩⟩⟩⟩
end
section
/-! the words that stay as the machine goes on -/
def mc_nest : Cond → Bool
  | .fieldLinkNest .. => true
  | .methodLinkNest .. => true
  | .arrayOver (.array _) => true
  | _ => false
def mc_tbl : List Cond := lw_tbl.filter (fun w => goodWord w || mc_nest w)
theorem mc_in {w : Cond} (i : Nat) (h : lw_tbl[i]? = some w) (hg : (goodWord w || mc_nest w) = true) : w ∈ mc_tbl := List.mem_filter.mpr ⟨List.mem_of_getElem? h, hg⟩
def RX0 : String := "RestingBlocks$Balance"
def TX0 : u_T := fun k => match k with
  | 0 => ("RestingBlocks$Balance", "cells", "[[J", true)
  | 1 => ("RestingBlocks$Balance", "givenBy", "[I", true)
  | 2 => ("RestingBlocks$Balance", "blockRow", "[I", true)
  | 3 => ("RestingBlocks$Balance", "rows", "I", false)
  | 4 => ("RestingBlocks$Balance", "unknowns", "I", false)
  | _ => ("RestingBlocks$Balance", "divisor", "J", false)
def tyX0 : Nat → FieldType := fun k => match k with
  | 0 => .array (.array .long)
  | 1 => .array .int
  | 2 => .array .int
  | 3 => .int
  | 4 => .int
  | _ => .long
theorem nmX0 : ∀ a, a < 6 → ∀ b, b < 6 → a ≠ b → (TX0 a).2.1 ≠ (TX0 b).2.1 := by decide +kernel
theorem tyX0_ok : ∀ k, k < 6 → parseFieldDescriptor (TX0 k).2.2.1 = some (tyX0 k) := by decide +kernel
theorem lyX0_0 : u_lay RX0 TX0 0 ∈ mc_tbl := mc_in 156 (by decide +kernel) (by decide +kernel)
theorem lyX0_1 : u_lay RX0 TX0 1 ∈ mc_tbl := mc_in 158 (by decide +kernel) (by decide +kernel)
theorem lyX0_2 : u_lay RX0 TX0 2 ∈ mc_tbl := mc_in 160 (by decide +kernel) (by decide +kernel)
theorem lyX0_3 : u_lay RX0 TX0 3 ∈ mc_tbl := mc_in 162 (by decide +kernel) (by decide +kernel)
theorem lyX0_4 : u_lay RX0 TX0 4 ∈ mc_tbl := mc_in 164 (by decide +kernel) (by decide +kernel)
theorem lyX0_5 : u_lay RX0 TX0 5 ∈ mc_tbl := mc_in 166 (by decide +kernel) (by decide +kernel)
theorem inX0 : ∀ w ∈ u_ws RX0 TX0 6, w ∈ mc_tbl := by
  intro w hw
  obtain ⟨k, hk, rfl⟩ := List.mem_map.mp hw
  have hk := List.mem_range.mp hk
  match k, hk with
  | 0, _ => exact lyX0_0
  | 1, _ => exact lyX0_1
  | 2, _ => exact lyX0_2
  | 3, _ => exact lyX0_3
  | 4, _ => exact lyX0_4
  | 5, _ => exact lyX0_5
  | k + 6, hk => exact absurd hk (by omega)
theorem iniX0 : Cond.initialized RX0 ∈ mc_tbl := mc_in 78 (by decide +kernel) (by decide +kernel)
theorem insX0 : Cond.instantiable RX0 6 ∈ mc_tbl := mc_in 143 (by decide +kernel) (by decide +kernel)
def RX1 : String := "RestingBlocks$Layout"
def TX1 : u_T := fun k => match k with
  | 0 => ("RestingBlocks$Layout", "lefts", "[I", true)
  | 1 => ("RestingBlocks$Layout", "rights", "[I", true)
  | 2 => ("RestingBlocks$Layout", "levels", "[I", true)
  | 3 => ("RestingBlocks$Layout", "under", "[I", true)
  | 4 => ("RestingBlocks$Layout", "over", "[I", true)
  | 5 => ("RestingBlocks$Layout", "uppers", "[I", true)
  | 6 => ("RestingBlocks$Layout", "lowers", "[I", true)
  | 7 => ("RestingBlocks$Layout", "places", "[I", true)
  | 8 => ("RestingBlocks$Layout", "blocks", "I", false)
  | _ => ("RestingBlocks$Layout", "contacts", "I", false)
def tyX1 : Nat → FieldType := fun k => match k with
  | 0 => .array .int
  | 1 => .array .int
  | 2 => .array .int
  | 3 => .array .int
  | 4 => .array .int
  | 5 => .array .int
  | 6 => .array .int
  | 7 => .array .int
  | 8 => .int
  | _ => .int
theorem nmX1 : ∀ a, a < 10 → ∀ b, b < 10 → a ≠ b → (TX1 a).2.1 ≠ (TX1 b).2.1 := by decide +kernel
theorem tyX1_ok : ∀ k, k < 10 → parseFieldDescriptor (TX1 k).2.2.1 = some (tyX1 k) := by decide +kernel
theorem lyX1_0 : u_lay RX1 TX1 0 ∈ mc_tbl := mc_in 121 (by decide +kernel) (by decide +kernel)
theorem lyX1_1 : u_lay RX1 TX1 1 ∈ mc_tbl := mc_in 123 (by decide +kernel) (by decide +kernel)
theorem lyX1_2 : u_lay RX1 TX1 2 ∈ mc_tbl := mc_in 125 (by decide +kernel) (by decide +kernel)
theorem lyX1_3 : u_lay RX1 TX1 3 ∈ mc_tbl := mc_in 127 (by decide +kernel) (by decide +kernel)
theorem lyX1_4 : u_lay RX1 TX1 4 ∈ mc_tbl := mc_in 129 (by decide +kernel) (by decide +kernel)
theorem lyX1_5 : u_lay RX1 TX1 5 ∈ mc_tbl := mc_in 131 (by decide +kernel) (by decide +kernel)
theorem lyX1_6 : u_lay RX1 TX1 6 ∈ mc_tbl := mc_in 133 (by decide +kernel) (by decide +kernel)
theorem lyX1_7 : u_lay RX1 TX1 7 ∈ mc_tbl := mc_in 135 (by decide +kernel) (by decide +kernel)
theorem lyX1_8 : u_lay RX1 TX1 8 ∈ mc_tbl := mc_in 137 (by decide +kernel) (by decide +kernel)
theorem lyX1_9 : u_lay RX1 TX1 9 ∈ mc_tbl := mc_in 139 (by decide +kernel) (by decide +kernel)
theorem inX1 : ∀ w ∈ u_ws RX1 TX1 10, w ∈ mc_tbl := by
  intro w hw
  obtain ⟨k, hk, rfl⟩ := List.mem_map.mp hw
  have hk := List.mem_range.mp hk
  match k, hk with
  | 0, _ => exact lyX1_0
  | 1, _ => exact lyX1_1
  | 2, _ => exact lyX1_2
  | 3, _ => exact lyX1_3
  | 4, _ => exact lyX1_4
  | 5, _ => exact lyX1_5
  | 6, _ => exact lyX1_6
  | 7, _ => exact lyX1_7
  | 8, _ => exact lyX1_8
  | 9, _ => exact lyX1_9
  | k + 10, hk => exact absurd hk (by omega)
theorem iniX1 : Cond.initialized RX1 ∈ mc_tbl := mc_in 77 (by decide +kernel) (by decide +kernel)
theorem insX1 : Cond.instantiable RX1 10 ∈ mc_tbl := mc_in 106 (by decide +kernel) (by decide +kernel)
def RX2 : String := "RestingBlocks$Pile"
def TX2 : u_T := fun k => match k with
  | _ => ("RestingBlocks$Pile", "cells", "[I", true)
def tyX2 : Nat → FieldType := fun k => match k with
  | _ => .array .int
theorem nmX2 : ∀ a, a < 1 → ∀ b, b < 1 → a ≠ b → (TX2 a).2.1 ≠ (TX2 b).2.1 := by decide +kernel
theorem tyX2_ok : ∀ k, k < 1 → parseFieldDescriptor (TX2 k).2.2.1 = some (tyX2 k) := by decide +kernel
theorem lyX2_0 : u_lay RX2 TX2 0 ∈ mc_tbl := mc_in 101 (by decide +kernel) (by decide +kernel)
theorem inX2 : ∀ w ∈ u_ws RX2 TX2 1, w ∈ mc_tbl := by
  intro w hw
  obtain ⟨k, hk, rfl⟩ := List.mem_map.mp hw
  have hk := List.mem_range.mp hk
  match k, hk with
  | 0, _ => exact lyX2_0
  | k + 1, hk => exact absurd hk (by omega)
theorem iniX2 : Cond.initialized RX2 ∈ mc_tbl := mc_in 76 (by decide +kernel) (by decide +kernel)
theorem insX2 : Cond.instantiable RX2 1 ∈ mc_tbl := mc_in 94 (by decide +kernel) (by decide +kernel)
def RX3 : String := "RestingBlocks$Shelf"
def TX3 : u_T := fun k => match k with
  | 0 => ("RestingBlocks$Shelf", "places", "I", true)
  | _ => ("RestingBlocks$Shelf", "store", "[I", true)
def tyX3 : Nat → FieldType := fun k => match k with
  | 0 => .int
  | _ => .array .int
theorem nmX3 : ∀ a, a < 2 → ∀ b, b < 2 → a ≠ b → (TX3 a).2.1 ≠ (TX3 b).2.1 := by decide +kernel
theorem tyX3_ok : ∀ k, k < 2 → parseFieldDescriptor (TX3 k).2.2.1 = some (tyX3 k) := by decide +kernel
theorem lyX3_0 : u_lay RX3 TX3 0 ∈ mc_tbl := mc_in 198 (by decide +kernel) (by decide +kernel)
theorem lyX3_1 : u_lay RX3 TX3 1 ∈ mc_tbl := mc_in 200 (by decide +kernel) (by decide +kernel)
theorem inX3 : ∀ w ∈ u_ws RX3 TX3 2, w ∈ mc_tbl := by
  intro w hw
  obtain ⟨k, hk, rfl⟩ := List.mem_map.mp hw
  have hk := List.mem_range.mp hk
  match k, hk with
  | 0, _ => exact lyX3_0
  | 1, _ => exact lyX3_1
  | k + 2, hk => exact absurd hk (by omega)
theorem iniX3 : Cond.initialized RX3 ∈ mc_tbl := mc_in 80 (by decide +kernel) (by decide +kernel)
theorem insX3 : Cond.instantiable RX3 2 ∈ mc_tbl := mc_in 188 (by decide +kernel) (by decide +kernel)
def RX4 : String := "RestingBlocks$Text"
def TX4 : u_T := fun k => match k with
  | 0 => ("RestingBlocks$Text", "letters", "[S", true)
  | 1 => ("RestingBlocks$Text", "length", "I", false)
  | _ => ("RestingBlocks$Text", "at", "I", false)
def tyX4 : Nat → FieldType := fun k => match k with
  | 0 => .array .short
  | 1 => .int
  | _ => .int
theorem nmX4 : ∀ a, a < 3 → ∀ b, b < 3 → a ≠ b → (TX4 a).2.1 ≠ (TX4 b).2.1 := by decide +kernel
theorem tyX4_ok : ∀ k, k < 3 → parseFieldDescriptor (TX4 k).2.2.1 = some (tyX4 k) := by decide +kernel
theorem lyX4_0 : u_lay RX4 TX4 0 ∈ mc_tbl := mc_in 179 (by decide +kernel) (by decide +kernel)
theorem lyX4_1 : u_lay RX4 TX4 1 ∈ mc_tbl := mc_in 181 (by decide +kernel) (by decide +kernel)
theorem lyX4_2 : u_lay RX4 TX4 2 ∈ mc_tbl := mc_in 183 (by decide +kernel) (by decide +kernel)
theorem inX4 : ∀ w ∈ u_ws RX4 TX4 3, w ∈ mc_tbl := by
  intro w hw
  obtain ⟨k, hk, rfl⟩ := List.mem_map.mp hw
  have hk := List.mem_range.mp hk
  match k, hk with
  | 0, _ => exact lyX4_0
  | 1, _ => exact lyX4_1
  | 2, _ => exact lyX4_2
  | k + 3, hk => exact absurd hk (by omega)
theorem iniX4 : Cond.initialized RX4 ∈ mc_tbl := mc_in 79 (by decide +kernel) (by decide +kernel)
theorem insX4 : Cond.instantiable RX4 3 ∈ mc_tbl := mc_in 171 (by decide +kernel) (by decide +kernel)
def RX5 : String := "RestingBlocks"
def TX5 : u_T := fun k => match k with
  | 0 => ("RestingBlocks", "pile", "LRestingBlocks$Pile;", true)
  | 1 => ("RestingBlocks", "trial", "LRestingBlocks$Pile;", true)
  | 2 => ("RestingBlocks", "layout", "LRestingBlocks$Layout;", true)
  | 3 => ("RestingBlocks", "balance", "LRestingBlocks$Balance;", true)
  | 4 => ("RestingBlocks", "text", "LRestingBlocks$Text;", true)
  | 5 => ("RestingBlocks", "past", "LRestingBlocks$Shelf;", true)
  | 6 => ("RestingBlocks", "images", "LRestingBlocks$Shelf;", true)
  | 7 => ("RestingBlocks", "kept", "[Z", true)
  | _ => ("RestingBlocks", "undoable", "I", false)
def tyX5 : Nat → FieldType := fun k => match k with
  | 0 => .object "RestingBlocks$Pile"
  | 1 => .object "RestingBlocks$Pile"
  | 2 => .object "RestingBlocks$Layout"
  | 3 => .object "RestingBlocks$Balance"
  | 4 => .object "RestingBlocks$Text"
  | 5 => .object "RestingBlocks$Shelf"
  | 6 => .object "RestingBlocks$Shelf"
  | 7 => .array .boolean
  | _ => .int
theorem nmX5 : ∀ a, a < 9 → ∀ b, b < 9 → a ≠ b → (TX5 a).2.1 ≠ (TX5 b).2.1 := by decide +kernel
theorem tyX5_ok : ∀ k, k < 9 → parseFieldDescriptor (TX5 k).2.2.1 = some (tyX5 k) := by decide +kernel
theorem lyX5_0 : u_lay RX5 TX5 0 ∈ mc_tbl := mc_in 212 (by decide +kernel) (by decide +kernel)
theorem lyX5_1 : u_lay RX5 TX5 1 ∈ mc_tbl := mc_in 214 (by decide +kernel) (by decide +kernel)
theorem lyX5_2 : u_lay RX5 TX5 2 ∈ mc_tbl := mc_in 216 (by decide +kernel) (by decide +kernel)
theorem lyX5_3 : u_lay RX5 TX5 3 ∈ mc_tbl := mc_in 218 (by decide +kernel) (by decide +kernel)
theorem lyX5_4 : u_lay RX5 TX5 4 ∈ mc_tbl := mc_in 220 (by decide +kernel) (by decide +kernel)
theorem lyX5_5 : u_lay RX5 TX5 5 ∈ mc_tbl := mc_in 222 (by decide +kernel) (by decide +kernel)
theorem lyX5_6 : u_lay RX5 TX5 6 ∈ mc_tbl := mc_in 224 (by decide +kernel) (by decide +kernel)
theorem lyX5_7 : u_lay RX5 TX5 7 ∈ mc_tbl := mc_in 226 (by decide +kernel) (by decide +kernel)
theorem lyX5_8 : u_lay RX5 TX5 8 ∈ mc_tbl := mc_in 228 (by decide +kernel) (by decide +kernel)
theorem inX5 : ∀ w ∈ u_ws RX5 TX5 9, w ∈ mc_tbl := by
  intro w hw
  obtain ⟨k, hk, rfl⟩ := List.mem_map.mp hw
  have hk := List.mem_range.mp hk
  match k, hk with
  | 0, _ => exact lyX5_0
  | 1, _ => exact lyX5_1
  | 2, _ => exact lyX5_2
  | 3, _ => exact lyX5_3
  | 4, _ => exact lyX5_4
  | 5, _ => exact lyX5_5
  | 6, _ => exact lyX5_6
  | 7, _ => exact lyX5_7
  | 8, _ => exact lyX5_8
  | k + 9, hk => exact absurd hk (by omega)
theorem iniX5 : Cond.initialized RX5 ∈ mc_tbl := mc_in 75 (by decide +kernel) (by decide +kernel)
theorem insX5 : Cond.instantiable RX5 9 ∈ mc_tbl := mc_in 86 (by decide +kernel) (by decide +kernel)
def RX6 : String := "RestingBlocksModel"
def TX6 : u_T := fun k => match k with
  | 0 => ("RestingBlocksModel", "now", "[I", true)
  | 1 => ("RestingBlocksModel", "past", "[I", true)
  | 2 => ("RestingBlocksModel", "undos", "I", false)
  | 3 => ("RestingBlocksModel", "images", "[I", true)
  | 4 => ("RestingBlocksModel", "isKept", "[Z", true)
  | 5 => ("RestingBlocksModel", "text", "[I", true)
  | 6 => ("RestingBlocksModel", "letters", "I", false)
  | 7 => ("RestingBlocksModel", "levels", "[I", true)
  | 8 => ("RestingBlocksModel", "under", "[I", true)
  | 9 => ("RestingBlocksModel", "contacts", "I", false)
  | 10 => ("RestingBlocksModel", "of", "[I", true)
  | 11 => ("RestingBlocksModel", "on", "[I", true)
  | 12 => ("RestingBlocksModel", "place", "[I", true)
  | 13 => ("RestingBlocksModel", "rows", "I", false)
  | 14 => ("RestingBlocksModel", "columns", "I", false)
  | 15 => ("RestingBlocksModel", "matrix", "[J", true)
  | 16 => ("RestingBlocksModel", "due", "[J", true)
  | 17 => ("RestingBlocksModel", "work", "[J", true)
  | 18 => ("RestingBlocksModel", "isFound", "Z", false)
  | 19 => ("RestingBlocksModel", "leastUp", "J", false)
  | 20 => ("RestingBlocksModel", "leastLow", "J", false)
  | 21 => ("RestingBlocksModel", "mostUp", "J", false)
  | 22 => ("RestingBlocksModel", "mostLow", "J", false)
  | 23 => ("RestingBlocksModel", "at", "I", false)
  | 24 => ("RestingBlocksModel", "mark", "I", false)
  | 25 => ("RestingBlocksModel", "items", "I", false)
  | _ => ("RestingBlocksModel", "aside", "[I", true)
def tyX6 : Nat → FieldType := fun k => match k with
  | 0 => .array .int
  | 1 => .array .int
  | 2 => .int
  | 3 => .array .int
  | 4 => .array .boolean
  | 5 => .array .int
  | 6 => .int
  | 7 => .array .int
  | 8 => .array .int
  | 9 => .int
  | 10 => .array .int
  | 11 => .array .int
  | 12 => .array .int
  | 13 => .int
  | 14 => .int
  | 15 => .array .long
  | 16 => .array .long
  | 17 => .array .long
  | 18 => .boolean
  | 19 => .long
  | 20 => .long
  | 21 => .long
  | 22 => .long
  | 23 => .int
  | 24 => .int
  | 25 => .int
  | _ => .array .int
theorem nmX6 : ∀ a, a < 27 → ∀ b, b < 27 → a ≠ b → (TX6 a).2.1 ≠ (TX6 b).2.1 := by decide +kernel
theorem tyX6_ok : ∀ k, k < 27 → parseFieldDescriptor (TX6 k).2.2.1 = some (tyX6 k) := by decide +kernel
theorem lyX6_0 : u_lay RX6 TX6 0 ∈ mc_tbl := mc_in 646 (by decide +kernel) (by decide +kernel)
theorem lyX6_1 : u_lay RX6 TX6 1 ∈ mc_tbl := mc_in 648 (by decide +kernel) (by decide +kernel)
theorem lyX6_2 : u_lay RX6 TX6 2 ∈ mc_tbl := mc_in 650 (by decide +kernel) (by decide +kernel)
theorem lyX6_3 : u_lay RX6 TX6 3 ∈ mc_tbl := mc_in 652 (by decide +kernel) (by decide +kernel)
theorem lyX6_4 : u_lay RX6 TX6 4 ∈ mc_tbl := mc_in 654 (by decide +kernel) (by decide +kernel)
theorem lyX6_5 : u_lay RX6 TX6 5 ∈ mc_tbl := mc_in 656 (by decide +kernel) (by decide +kernel)
theorem lyX6_6 : u_lay RX6 TX6 6 ∈ mc_tbl := mc_in 658 (by decide +kernel) (by decide +kernel)
theorem lyX6_7 : u_lay RX6 TX6 7 ∈ mc_tbl := mc_in 660 (by decide +kernel) (by decide +kernel)
theorem lyX6_8 : u_lay RX6 TX6 8 ∈ mc_tbl := mc_in 662 (by decide +kernel) (by decide +kernel)
theorem lyX6_9 : u_lay RX6 TX6 9 ∈ mc_tbl := mc_in 664 (by decide +kernel) (by decide +kernel)
theorem lyX6_10 : u_lay RX6 TX6 10 ∈ mc_tbl := mc_in 666 (by decide +kernel) (by decide +kernel)
theorem lyX6_11 : u_lay RX6 TX6 11 ∈ mc_tbl := mc_in 668 (by decide +kernel) (by decide +kernel)
theorem lyX6_12 : u_lay RX6 TX6 12 ∈ mc_tbl := mc_in 670 (by decide +kernel) (by decide +kernel)
theorem lyX6_13 : u_lay RX6 TX6 13 ∈ mc_tbl := mc_in 672 (by decide +kernel) (by decide +kernel)
theorem lyX6_14 : u_lay RX6 TX6 14 ∈ mc_tbl := mc_in 674 (by decide +kernel) (by decide +kernel)
theorem lyX6_15 : u_lay RX6 TX6 15 ∈ mc_tbl := mc_in 676 (by decide +kernel) (by decide +kernel)
theorem lyX6_16 : u_lay RX6 TX6 16 ∈ mc_tbl := mc_in 678 (by decide +kernel) (by decide +kernel)
theorem lyX6_17 : u_lay RX6 TX6 17 ∈ mc_tbl := mc_in 680 (by decide +kernel) (by decide +kernel)
theorem lyX6_18 : u_lay RX6 TX6 18 ∈ mc_tbl := mc_in 682 (by decide +kernel) (by decide +kernel)
theorem lyX6_19 : u_lay RX6 TX6 19 ∈ mc_tbl := mc_in 684 (by decide +kernel) (by decide +kernel)
theorem lyX6_20 : u_lay RX6 TX6 20 ∈ mc_tbl := mc_in 686 (by decide +kernel) (by decide +kernel)
theorem lyX6_21 : u_lay RX6 TX6 21 ∈ mc_tbl := mc_in 688 (by decide +kernel) (by decide +kernel)
theorem lyX6_22 : u_lay RX6 TX6 22 ∈ mc_tbl := mc_in 690 (by decide +kernel) (by decide +kernel)
theorem lyX6_23 : u_lay RX6 TX6 23 ∈ mc_tbl := mc_in 692 (by decide +kernel) (by decide +kernel)
theorem lyX6_24 : u_lay RX6 TX6 24 ∈ mc_tbl := mc_in 694 (by decide +kernel) (by decide +kernel)
theorem lyX6_25 : u_lay RX6 TX6 25 ∈ mc_tbl := mc_in 696 (by decide +kernel) (by decide +kernel)
theorem lyX6_26 : u_lay RX6 TX6 26 ∈ mc_tbl := mc_in 698 (by decide +kernel) (by decide +kernel)
theorem inX6 : ∀ w ∈ u_ws RX6 TX6 27, w ∈ mc_tbl := by
  intro w hw
  obtain ⟨k, hk, rfl⟩ := List.mem_map.mp hw
  have hk := List.mem_range.mp hk
  match k, hk with
  | 0, _ => exact lyX6_0
  | 1, _ => exact lyX6_1
  | 2, _ => exact lyX6_2
  | 3, _ => exact lyX6_3
  | 4, _ => exact lyX6_4
  | 5, _ => exact lyX6_5
  | 6, _ => exact lyX6_6
  | 7, _ => exact lyX6_7
  | 8, _ => exact lyX6_8
  | 9, _ => exact lyX6_9
  | 10, _ => exact lyX6_10
  | 11, _ => exact lyX6_11
  | 12, _ => exact lyX6_12
  | 13, _ => exact lyX6_13
  | 14, _ => exact lyX6_14
  | 15, _ => exact lyX6_15
  | 16, _ => exact lyX6_16
  | 17, _ => exact lyX6_17
  | 18, _ => exact lyX6_18
  | 19, _ => exact lyX6_19
  | 20, _ => exact lyX6_20
  | 21, _ => exact lyX6_21
  | 22, _ => exact lyX6_22
  | 23, _ => exact lyX6_23
  | 24, _ => exact lyX6_24
  | 25, _ => exact lyX6_25
  | 26, _ => exact lyX6_26
  | k + 27, hk => exact absurd hk (by omega)
theorem iniX6 : Cond.initialized RX6 ∈ mc_tbl := mc_in 82 (by decide +kernel) (by decide +kernel)
theorem insX6 : Cond.instantiable RX6 27 ∈ mc_tbl := mc_in 614 (by decide +kernel) (by decide +kernel)
def RJ6 : String := "java/lang/Integer"
def RJ9 : String := "java/lang/Math"
def RL : String := "RestingBlocksLaw"
theorem iniJ6 : Cond.initialized RJ6 ∈ mc_tbl := mc_in 84 (by decide +kernel) (by decide +kernel)
theorem iniJ9 : Cond.initialized RJ9 ∈ mc_tbl := mc_in 81 (by decide +kernel) (by decide +kernel)
abbrev mc_cl : List vw_C := [(RX0, TX0, 6), (RX1, TX1, 10), (RX2, TX2, 1), (RX3, TX3, 2), (RX4, TX4, 3), (RX5, TX5, 9), (RX6, TX6, 27)]
end
section
/-! ===== THE PICTURE OF A RUN: abstract cells by number (1, 2 ..; 0 is the script), what they hold, and how they lie in the heap ===== -/
/-- a cell: an object (number of its class, its fields), an array of ints (or shorts, booleans), of longs, of rows of longs -/
abbrev mc_Cell : Type := (Nat × List Value) ⊕ ((FieldType × Nat × (Nat → Int32)) ⊕ ((Nat × (Nat → Int64)) ⊕ (Nat × (Nat → Option Nat))))
abbrev mc_H : Type := List mc_Cell
/-- a method: its name, its bytes, how many locals, what it returns -/
abbrev mc_M : Type := MethodName × ByteArray × Nat × Option FieldType
/-- what is fixed in a run: classes and slots, array classes, the script's address, the first new address -/
abbrev mc_G : Type := va_G × (FieldType → ClassId) × Nat × Nat
def mc_ad (G : mc_G) : Nat → Nat
  | 0 => G.2.2.1
  | k + 1 => G.2.2.2 + k
def mc_cv (G : mc_G) : Value → Value
  | .ref k => .ref (mc_ad G k)
  | v => v
def mc_E (G : mc_G) : mc_Cell → va_E
  | .inl (ci, fs) => .inr (ci, fs.map (mc_cv G))
  | .inr (.inl (ty, n, f)) => .inl (G.2.1 ty, n, .inl f)
  | .inr (.inr (.inl (n, f))) => .inl (G.2.1 .long, n, .inr (.inl f))
  | .inr (.inr (.inr (n, f))) => .inl (G.2.1 (.array .long), n, .inr (.inr (.inr (.inr (fun j => (f j).map (mc_ad G))))))
def mc_W (G : mc_G) (h : mc_H) : va_W := h.mapIdx (fun k c => (mc_ad G (k + 1), mc_E G c))
def mc_tys (G : mc_G) : List (ClassId × FieldType) := [(G.2.1 .int, .int), (G.2.1 .long, .long), (G.2.1 .short, .short), (G.2.1 .boolean, .boolean), (G.2.1 (.array .long), .array .long)]
def mc_A (G : mc_G) : Nat → Prop := fun q => G.2.2.2 ≤ q
def mc_K (G : mc_G) (s : State) : Prop := va_K G.1 mc_cl (mc_tys G) s
def mc_P (G : mc_G) (h : mc_H) (H : Heap) : Prop := va_P G.1 mc_cl (mc_W G h) H ∧ H.size = G.2.2.2 + h.length
def mc_S (G : mc_G) (s : State) (H : Heap) (locs : List Loc) : Prop := va_S (mc_A G) s.heap H locs ∧ G.2.2.2 ≤ s.heap.size
/-- all words of the tables, for whatever arguments -/
def mc_Wd (U : State) : Prop := ∀ (a : Array Value) (w : Cond), w ∈ mc_tbl → w.before a U = true
/-- locals: what the list says of them ('.retAddr 0': nothing) -/
def mc_lv (G : mc_G) (loc : List Value) : List (Nat × Value) := (List.range loc.length).filterMap (fun i => match loc[i]? with
  | some v => if v = .retAddr 0 then none else some (i, mc_cv G v)
  | none => none)
def mc_LO (G : mc_G) (ls : Array Slot) (nL : Nat) (loc : List Value) : Prop := lv_has ls nL (mc_lv G loc) ∧ loc.length = nL
def mc_C (Mt : mc_M) (p : Program) (s : State) (m : MethodId) (meth : Method) (c : Code) : Prop :=
  p.tables.exec = Jvm.exec ∧ c.code = Mt.2.1 ∧ c.maxLocals = Mt.2.2.1 ∧ meth.sig.returnType = Mt.2.2.2 ∧ meth.locks = false ∧ s.vm.findClass Mt.1.cls = some m.cls ∧ mc_Wd s ∧ (Mt.1.name = "<init>" → meth.name = "<init>")
/-- the script, where the frame is the law's -/
def mc_X (G : mc_G) (s : State) : Option (Nat × (Nat → Int32)) → Prop
  | none => True
  | some (L, xs) => va_X G.2.2.1 L xs s s.heap ∧ G.2.2.1 < G.2.2.2
def mc_ret (Mt : mc_M) (pc : Nat) : Option Value → Prop
  | none => Mt.2.2.2 = none ∧ decode Mt.2.1 pc = .ok (.return_, 1)
  | some (.int v) => ∃ ty, Mt.2.2.2 = some ty ∧ narrow ty (.int v) = .int v ∧ decode Mt.2.1 pc = .ok (.ireturn, 1)
  | some (.long _) => Mt.2.2.2 = some .long ∧ decode Mt.2.1 pc = .ok (.lreturn, 1)
  | some _ => False
/-- FROM HERE THE METHOD RETURNS: at pc, with these locals, stack, cells, it returns r with the cells h', at most d frames deep, having made nc cells of ns slots -/
def mc_V (Mt : mc_M) (d : Nat) (scr : Option (Nat × (Nat → Int32))) (pc : Nat) (loc stk : List Value) (h : mc_H) (r : Option Value) (h' : mc_H) (nc ns : Nat) : Prop :=
  ∀ (p : Program) (l : Launch) (e : Env) (R : Room) (s : State) (m : MethodId) (args : Array Value) (below : List Frame) (meth : Method) (c : Code) (H : Heap) (locs : List Loc) (cells slots : Nat) (Q : State → Prop) (ls : Array Slot) (G : mc_G),
    mc_C Mt p s m meth c → mc_K G s → mc_X G s scr → mc_P G h H → mc_S G s H locs → mc_LO G ls Mt.2.2.1 loc → (d ≤ R.frames ∧ 35 * d ≤ R.locals ∧ cells + nc ≤ R.cells ∧ slots + ns ≤ R.slots) →
    (∀ (H' : Heap) (locs' : List Loc) (pc' : Nat) (ls' : Array Slot), mc_P G h' H' → mc_S G s H' locs' → mc_ret Mt pc' r → W p l e R s m args below meth c H' locs' (cells + nc) (slots + ns) Q (F0 m pc' ls' (r.toList.map (mc_cv G)))) →
    W p l e R s m args below meth c H locs cells slots Q (F0 m pc ls (stk.map (mc_cv G)))
/-! plain facts of the picture -/
theorem mc_W_get {G : mc_G} {h : mc_H} {a : Nat} {x : mc_Cell} (hx : h[a]? = some x) : (mc_W G h)[a]? = some (mc_ad G (a + 1), mc_E G x) := by
  unfold mc_W
  rw [List.getElem?_mapIdx, hx]
  rfl
theorem mc_W_set {G : mc_G} {h : mc_H} {a : Nat} (x : mc_Cell) : (mc_W G h).set a (mc_ad G (a + 1), mc_E G x) = mc_W G (h.set a x) := by
  unfold mc_W
  apply List.ext_getElem?
  intro i
  rw [List.getElem?_set, List.getElem?_mapIdx, List.getElem?_mapIdx, List.getElem?_set, List.length_mapIdx]
  by_cases hi : a = i
  · subst hi
    by_cases hl : a < h.length <;> simp [hl]
  · simp [hi]
theorem mc_D (G : mc_G) (h : mc_H) : va_D (mc_A G) (mc_W G h) := by
  have at' : ∀ (k : Nat) (q : Nat × va_E), (mc_W G h)[k]? = some q → q.1 = G.2.2.2 + k := by
    intro k q hq
    unfold mc_W at hq
    rw [List.getElem?_mapIdx] at hq
    cases hk : h[k]? with
    | none => rw [hk] at hq; cases hq
    | some x => rw [hk] at hq; cases hq; rfl
  refine ⟨fun i j p q hi hj e => ?_, fun k q hq => ?_⟩
  · have h1 := at' i p hi
    have h2 := at' j q hj
    omega
  · have h1 := at' k q hq
    show G.2.2.2 ≤ q.1
    omega
theorem mc_lv_mem {G : mc_G} {loc : List Value} {q : Nat × Value} : q ∈ mc_lv G loc ↔ ∃ v, loc[q.1]? = some v ∧ v ≠ .retAddr 0 ∧ q.2 = mc_cv G v := by
  unfold mc_lv
  rw [List.mem_filterMap]
  constructor
  · rintro ⟨i, -, hi⟩
    cases hv : loc[i]? with
    | none => rw [hv] at hi; cases hi
    | some v =>
      rw [hv] at hi
      by_cases hr : v = .retAddr 0
      · simp [hr] at hi
      · simp only [hr, if_false] at hi
        cases hi
        exact ⟨v, hv, hr, rfl⟩
  · rintro ⟨v, h1, h2, h3⟩
    refine ⟨q.1, List.mem_range.mpr (List.getElem?_eq_some_iff.mp h1).1, ?_⟩
    rw [h1]
    simp only [h2, if_false]
    rw [← h3]
theorem mc_LO.at {G : mc_G} {ls : Array Slot} {nL : Nat} {loc : List Value} (h : mc_LO G ls nL loc) {i : Nat} {v : Value} (hv : loc[i]? = some v) (hn : v ≠ .retAddr 0) : ls[i]? = some (.val (mc_cv G v)) :=
  h.1.2.2 (i, mc_cv G v) (mc_lv_mem.mpr ⟨v, hv, hn, rfl⟩)
theorem mc_has_mono {ls : Array Slot} {nL : Nat} {l l' : List (Nat × Value)} (h : lv_has ls nL l) (hs : ∀ q ∈ l', q ∈ l) : lv_has ls nL l' := ⟨h.1, h.2.1, fun q hq => h.2.2 q (hs q hq)⟩
theorem mc_cat (G : mc_G) (v : Value) : (mc_cv G v).category = v.category := by cases v <;> rfl
/-- a store of one word: a long that it cuts is gone -/
def mc_two (v : Option Value) : Bool := match v with
  | some v => v.category == 2
  | none => false
def mc_kill (loc : List Value) (i : Nat) : List Value := if i ≠ 0 ∧ mc_two loc[i - 1]? = true then loc.set (i - 1) (.retAddr 0) else loc
def mc_set1 (loc : List Value) (i : Nat) (v : Value) : List Value := (mc_kill loc i).set i v
def mc_set2 (loc : List Value) (i : Nat) (v : Value) : List Value := ((mc_kill loc i).set i v).set (i + 1) (.retAddr 0)
theorem mc_kill_len (loc : List Value) (i : Nat) : (mc_kill loc i).length = loc.length := by
  unfold mc_kill
  split <;> simp
theorem mc_kill_at {loc : List Value} {i j : Nat} {v : Value} (h : (mc_kill loc i)[j]? = some v) (hn : v ≠ .retAddr 0) : loc[j]? = some v ∧ (j + 1 = i → v.category ≠ 2) := by
  unfold mc_kill at h
  split at h
  · rename_i hc
    rw [List.getElem?_set] at h
    by_cases hij : i - 1 = j
    · rw [if_pos hij] at h
      split at h
      · cases h; exact absurd rfl hn
      · cases h
    · rw [if_neg hij] at h
      exact ⟨h, fun e => by omega⟩
  · rename_i hc
    refine ⟨h, fun e hv => hc ⟨by omega, ?_⟩⟩
    have : i - 1 = j := by omega
    rw [this, h]
    simp [mc_two, hv]
theorem mc_store1 {G : mc_G} {ls' : Array Slot} {nL : Nat} {loc : List Value} {i : Nat} {v : Value} (hl : loc.length = nL) (h : lv_has ls' nL ((i, mc_cv G v) :: (mc_lv G loc).filter (fun q => !(q.1 == i) && !(q.1 + 1 == i && q.2.category == 2)))) : mc_LO G ls' nL (mc_set1 loc i v) := by
  refine ⟨mc_has_mono h fun q hq => ?_, by unfold mc_set1; rw [List.length_set, mc_kill_len, hl]⟩
  obtain ⟨w, h1, h2, h3⟩ := mc_lv_mem.mp hq
  unfold mc_set1 at h1
  rw [List.getElem?_set] at h1
  by_cases hi : i = q.1
  · rw [if_pos hi] at h1
    split at h1
    · cases h1
      refine List.mem_cons.mpr (Or.inl (Prod.ext hi.symm h3))
    · cases h1
  · rw [if_neg hi] at h1
    obtain ⟨g1, g2⟩ := mc_kill_at h1 h2
    refine List.mem_cons.mpr (Or.inr (List.mem_filter.mpr ⟨mc_lv_mem.mpr ⟨w, g1, h2, h3⟩, ?_⟩))
    have e1 : (q.1 == i) = false := by simpa using fun e => hi e.symm
    rw [e1]
    by_cases e2 : q.1 + 1 = i
    · have hw := g2 e2
      rw [h3, mc_cat]
      simp [hw]
    · simp [e2]
theorem mc_store2 {G : mc_G} {ls' : Array Slot} {nL : Nat} {loc : List Value} {i : Nat} {v : Value} (hl : loc.length = nL) (h : lv_has ls' nL ((i, mc_cv G v) :: (mc_lv G loc).filter (fun q => !(q.1 == i) && (!(q.1 == i + 1) && !(q.1 + 1 == i && q.2.category == 2))))) : mc_LO G ls' nL (mc_set2 loc i v) := by
  refine ⟨mc_has_mono h fun q hq => ?_, by unfold mc_set2; rw [List.length_set, List.length_set, mc_kill_len, hl]⟩
  obtain ⟨w, h1, h2, h3⟩ := mc_lv_mem.mp hq
  unfold mc_set2 at h1
  rw [List.getElem?_set] at h1
  by_cases hi1 : i + 1 = q.1
  · rw [if_pos hi1] at h1
    split at h1
    · cases h1; exact absurd rfl h2
    · cases h1
  · rw [if_neg hi1, List.getElem?_set] at h1
    by_cases hi : i = q.1
    · rw [if_pos hi] at h1
      split at h1
      · cases h1
        refine List.mem_cons.mpr (Or.inl (Prod.ext hi.symm h3))
      · cases h1
    · rw [if_neg hi] at h1
      obtain ⟨g1, g2⟩ := mc_kill_at h1 h2
      refine List.mem_cons.mpr (Or.inr (List.mem_filter.mpr ⟨mc_lv_mem.mpr ⟨w, g1, h2, h3⟩, ?_⟩))
      have e1 : (q.1 == i) = false := by simpa using fun e => hi e.symm
      have e3 : (q.1 == i + 1) = false := by simpa using fun e => hi1 e.symm
      rw [e1, e3]
      by_cases e2 : q.1 + 1 = i
      · have hw := g2 e2
        rw [h3, mc_cat]
        simp [hw]
      · simp [e2]
end
section
/-! ===== THE ROWS: an instruction, a row ===== -/
section MR
variable {Mt : mc_M} {d : Nat} {scr : Option (Nat × (Nat → Int32))} {pc : Nat} {loc stk : List Value} {h : mc_H} {r : Option Value} {h' : mc_H} {nc ns : Nat}
/-- an instruction that leaves locals and cells as they are -/
theorem mc_V.go {pc' : Nat} {stk' : List Value} (k : mc_V Mt d scr pc' loc stk' h r h' nc ns)
    (row : ∀ (p : Program) (l : Launch) (e : Env) (R : Room) (s : State) (m : MethodId) (args : Array Value) (below : List Frame) (meth : Method) (c : Code) (H : Heap) (locs : List Loc) (cells slots : Nat) (Q : State → Prop) (ls : Array Slot) (G : mc_G), mc_C Mt p s m meth c → mc_K G s → mc_X G s scr → mc_P G h H → mc_S G s H locs → mc_LO G ls Mt.2.2.1 loc →
      W p l e R s m args below meth c H locs cells slots Q (F0 m pc' ls (stk'.map (mc_cv G))) → W p l e R s m args below meth c H locs cells slots Q (F0 m pc ls (stk.map (mc_cv G)))) : mc_V Mt d scr pc loc stk h r h' nc ns := by
  intro p l e R s m args below meth c H locs cells slots Q ls G C K X P S L hR E
  exact row p l e R s m args below meth c H locs cells slots Q ls G C K X P S L (k p l e R s m args below meth c H locs cells slots Q ls G C K X P S L hR E)
/-- more room does no harm -/
theorem mc_V.up {d' : Nat} (k : mc_V Mt d scr pc loc stk h r h' nc ns) (hd : d ≤ d') : mc_V Mt d' scr pc loc stk h r h' nc ns := by
  intro p l e R s m args below meth c H locs cells slots Q ls G C K X P S L hR E
  exact k p l e R s m args below meth c H locs cells slots Q ls G C K X P S L ⟨Nat.le_trans hd hR.1, Nat.le_trans (Nat.mul_le_mul_left 35 hd) hR.2.1, hR.2.2⟩ E
/-- a branch of two -/
theorem mc_V.br {c1 : Prop} {pc1 pc2 : Nat} {stk' : List Value} (k1 : c1 → mc_V Mt d scr pc1 loc stk' h r h' nc ns) (k2 : ¬ c1 → mc_V Mt d scr pc2 loc stk' h r h' nc ns)
    (row : ∀ (p : Program) (l : Launch) (e : Env) (R : Room) (s : State) (m : MethodId) (args : Array Value) (below : List Frame) (meth : Method) (c : Code) (H : Heap) (locs : List Loc) (cells slots : Nat) (Q : State → Prop) (ls : Array Slot) (G : mc_G), mc_C Mt p s m meth c →
      (c1 → W p l e R s m args below meth c H locs cells slots Q (F0 m pc1 ls (stk'.map (mc_cv G)))) → (¬ c1 → W p l e R s m args below meth c H locs cells slots Q (F0 m pc2 ls (stk'.map (mc_cv G)))) → W p l e R s m args below meth c H locs cells slots Q (F0 m pc ls (stk.map (mc_cv G)))) : mc_V Mt d scr pc loc stk h r h' nc ns := by
  intro p l e R s m args below meth c H locs cells slots Q ls G C K X P S L hR E
  exact row p l e R s m args below meth c H locs cells slots Q ls G C (fun q => k1 q p l e R s m args below meth c H locs cells slots Q ls G C K X P S L hR E) (fun q => k2 q p l e R s m args below meth c H locs cells slots Q ls G C K X P S L hR E)
theorem mr_iconst {n : Int} (hd : decode Mt.2.1 pc = .ok (.iconst n, 1)) (k : mc_V Mt d scr (pc + 1) loc (.int (Int32.ofInt n) :: stk) h r h' nc ns) : mc_V Mt d scr pc loc (stk) h r h' nc ns := k.go (fun _ _ _ _ _ _ _ _ _ _ _ _ _ _ _ _ _ C K X P S L w => lv_iconst C.1 C.2.1 hd rfl w)
theorem mr_bipush {n : Int} (hd : decode Mt.2.1 pc = .ok (.bipush n, 2)) (k : mc_V Mt d scr (pc + 2) loc (.int (Int8.ofInt n).toInt32 :: stk) h r h' nc ns) : mc_V Mt d scr pc loc (stk) h r h' nc ns := k.go (fun _ _ _ _ _ _ _ _ _ _ _ _ _ _ _ _ _ C K X P S L w => lv_bipush C.1 C.2.1 hd rfl w)
theorem mr_sipush {n : Int} (hd : decode Mt.2.1 pc = .ok (.sipush n, 3)) (k : mc_V Mt d scr (pc + 3) loc (.int (Int16.ofInt n).toInt32 :: stk) h r h' nc ns) : mc_V Mt d scr pc loc (stk) h r h' nc ns := k.go (fun _ _ _ _ _ _ _ _ _ _ _ _ _ _ _ _ _ C K X P S L w => lv_sipush C.1 C.2.1 hd rfl w)
theorem mr_lconst {n : Fin 2} (hd : decode Mt.2.1 pc = .ok (.lconst n, 1)) (k : mc_V Mt d scr (pc + 1) loc (.long (Int64.ofNat (n : Nat)) :: stk) h r h' nc ns) : mc_V Mt d scr pc loc (stk) h r h' nc ns := k.go (fun _ _ _ _ _ _ _ _ _ _ _ _ _ _ _ _ _ C K X P S L w => lv_lconst C.1 C.2.1 hd rfl w)
theorem mr_ldc {idx : Nat} {x : Int32} (hw : Cond.constant Mt.1.cls idx x ∈ mc_tbl) (hd : decode Mt.2.1 pc = .ok (.ldc idx, 2)) (k : mc_V Mt d scr (pc + 2) loc (.int x :: stk) h r h' nc ns) : mc_V Mt d scr pc loc (stk) h r h' nc ns := k.go (fun _ _ _ _ _ _ _ _ _ _ _ _ _ _ _ _ _ C K X P S L w => lv_ldc C.1 C.2.1 C.2.2.2.2.2.1 (C.2.2.2.2.2.2.1 _ _ hw) hd w)
theorem mr_ldcw {idx : Nat} {x : Int32} (hw : Cond.constant Mt.1.cls idx x ∈ mc_tbl) (hd : decode Mt.2.1 pc = .ok (.ldc_w idx, 3)) (k : mc_V Mt d scr (pc + 3) loc (.int x :: stk) h r h' nc ns) : mc_V Mt d scr pc loc (stk) h r h' nc ns := k.go (fun _ _ _ _ _ _ _ _ _ _ _ _ _ _ _ _ _ C K X P S L w => lv_ldcw C.1 C.2.1 C.2.2.2.2.2.1 (C.2.2.2.2.2.2.1 _ _ hw) hd w)
theorem mr_ldc2 {idx : Nat} {x : Int64} (hw : Cond.constantLong Mt.1.cls idx x ∈ mc_tbl) (hd : decode Mt.2.1 pc = .ok (.ldc2_w idx, 3)) (k : mc_V Mt d scr (pc + 3) loc (.long x :: stk) h r h' nc ns) : mc_V Mt d scr pc loc (stk) h r h' nc ns := k.go (fun _ _ _ _ _ _ _ _ _ _ _ _ _ _ _ _ _ C K X P S L w => lv_ldc2 C.1 C.2.1 C.2.2.2.2.2.1 (C.2.2.2.2.2.2.1 _ _ hw) hd w)
theorem mr_iload_n {i : Fin 4} {x : Int32} (hd : decode Mt.2.1 pc = .ok (.iload_n i, 1)) (hl : loc[(i : Nat)]? = some (.int x)) (k : mc_V Mt d scr (pc + 1) loc (.int x :: stk) h r h' nc ns) : mc_V Mt d scr pc loc (stk) h r h' nc ns := k.go (fun _ _ _ _ _ _ _ _ _ _ _ _ _ _ _ _ _ C K X P S L w => lv_iload_n C.1 C.2.1 hd rfl (L.at hl (by simp)) w)
theorem mr_iload {i : Nat} {x : Int32} (hd : decode Mt.2.1 pc = .ok (.iload i, 2)) (hl : loc[i]? = some (.int x)) (k : mc_V Mt d scr (pc + 2) loc (.int x :: stk) h r h' nc ns) : mc_V Mt d scr pc loc (stk) h r h' nc ns := k.go (fun _ _ _ _ _ _ _ _ _ _ _ _ _ _ _ _ _ C K X P S L w => lv_iload C.1 C.2.1 hd (L.at hl (by simp)) w)
theorem mr_lload_n {i : Fin 4} {x : Int64} (hd : decode Mt.2.1 pc = .ok (.lload_n i, 1)) (hl : loc[(i : Nat)]? = some (.long x)) (k : mc_V Mt d scr (pc + 1) loc (.long x :: stk) h r h' nc ns) : mc_V Mt d scr pc loc (stk) h r h' nc ns := k.go (fun _ _ _ _ _ _ _ _ _ _ _ _ _ _ _ _ _ C K X P S L w => lv_lload_n C.1 C.2.1 hd rfl (L.at hl (by simp)) w)
theorem mr_lload {i : Nat} {x : Int64} (hd : decode Mt.2.1 pc = .ok (.lload i, 2)) (hl : loc[i]? = some (.long x)) (k : mc_V Mt d scr (pc + 2) loc (.long x :: stk) h r h' nc ns) : mc_V Mt d scr pc loc (stk) h r h' nc ns := k.go (fun _ _ _ _ _ _ _ _ _ _ _ _ _ _ _ _ _ C K X P S L w => lv_lload C.1 C.2.1 hd (L.at hl (by simp)) w)
theorem mr_aload_n {i : Fin 4} {x : Nat} (hd : decode Mt.2.1 pc = .ok (.aload_n i, 1)) (hl : loc[(i : Nat)]? = some (.ref x)) (k : mc_V Mt d scr (pc + 1) loc (.ref x :: stk) h r h' nc ns) : mc_V Mt d scr pc loc (stk) h r h' nc ns := k.go (fun _ _ _ _ _ _ _ _ _ _ _ _ _ _ _ _ _ C K X P S L w => lv_aload_n C.1 C.2.1 hd rfl (L.at hl (by simp)) w)
theorem mr_aload {i : Nat} {x : Nat} (hd : decode Mt.2.1 pc = .ok (.aload i, 2)) (hl : loc[i]? = some (.ref x)) (k : mc_V Mt d scr (pc + 2) loc (.ref x :: stk) h r h' nc ns) : mc_V Mt d scr pc loc (stk) h r h' nc ns := k.go (fun _ _ _ _ _ _ _ _ _ _ _ _ _ _ _ _ _ C K X P S L w => lv_aload C.1 C.2.1 hd (L.at hl (by simp)) w)
theorem mr_istore_n {i : Fin 4} {x : Int32} (hd : decode Mt.2.1 pc = .ok (.istore_n i, 1)) (hn : (i : Nat) < loc.length) (k : mc_V Mt d scr (pc + 1) (mc_set1 loc (i : Nat) (.int x)) (stk) h r h' nc ns) : mc_V Mt d scr pc loc (.int x :: stk) h r h' nc ns := by
  intro p l e R s m args below meth c H locs cells slots Q ls G C K X P S L hR E
  exact lv_istore_n C.1 C.2.1 hd rfl L.1 (by rw [← L.2]; exact hn) rfl (fun ls' hl => k p l e R s m args below meth c H locs cells slots Q ls' G C K X P S (mc_store1 (v := (.int x)) L.2 hl) hR E)
theorem mr_istore {i : Nat} {x : Int32} (hd : decode Mt.2.1 pc = .ok (.istore i, 2)) (hn : i < loc.length) (k : mc_V Mt d scr (pc + 2) (mc_set1 loc i (.int x)) (stk) h r h' nc ns) : mc_V Mt d scr pc loc (.int x :: stk) h r h' nc ns := by
  intro p l e R s m args below meth c H locs cells slots Q ls G C K X P S L hR E
  exact lv_istore C.1 C.2.1 hd L.1 (by rw [← L.2]; exact hn) rfl (fun ls' hl => k p l e R s m args below meth c H locs cells slots Q ls' G C K X P S (mc_store1 (v := (.int x)) L.2 hl) hR E)
theorem mr_lstore_n {i : Fin 4} {x : Int64} (hd : decode Mt.2.1 pc = .ok (.lstore_n i, 1)) (hn : (i : Nat) + 1 < loc.length) (k : mc_V Mt d scr (pc + 1) (mc_set2 loc (i : Nat) (.long x)) (stk) h r h' nc ns) : mc_V Mt d scr pc loc (.long x :: stk) h r h' nc ns := by
  intro p l e R s m args below meth c H locs cells slots Q ls G C K X P S L hR E
  exact lv_lstore_n C.1 C.2.1 hd rfl L.1 (by rw [← L.2]; exact hn) rfl (fun ls' hl => k p l e R s m args below meth c H locs cells slots Q ls' G C K X P S (mc_store2 (v := (.long x)) L.2 hl) hR E)
theorem mr_lstore {i : Nat} {x : Int64} (hd : decode Mt.2.1 pc = .ok (.lstore i, 2)) (hn : i + 1 < loc.length) (k : mc_V Mt d scr (pc + 2) (mc_set2 loc i (.long x)) (stk) h r h' nc ns) : mc_V Mt d scr pc loc (.long x :: stk) h r h' nc ns := by
  intro p l e R s m args below meth c H locs cells slots Q ls G C K X P S L hR E
  exact lv_lstore C.1 C.2.1 hd L.1 (by rw [← L.2]; exact hn) rfl (fun ls' hl => k p l e R s m args below meth c H locs cells slots Q ls' G C K X P S (mc_store2 (v := (.long x)) L.2 hl) hR E)
theorem mr_astore_n {i : Fin 4} {x : Nat} (hd : decode Mt.2.1 pc = .ok (.astore_n i, 1)) (hn : (i : Nat) < loc.length) (k : mc_V Mt d scr (pc + 1) (mc_set1 loc (i : Nat) (.ref x)) (stk) h r h' nc ns) : mc_V Mt d scr pc loc (.ref x :: stk) h r h' nc ns := by
  intro p l e R s m args below meth c H locs cells slots Q ls G C K X P S L hR E
  exact lv_astore_n C.1 C.2.1 hd rfl L.1 (by rw [← L.2]; exact hn) rfl (fun ls' hl => k p l e R s m args below meth c H locs cells slots Q ls' G C K X P S (mc_store1 (v := (.ref x)) L.2 hl) hR E)
theorem mr_astore {i : Nat} {x : Nat} (hd : decode Mt.2.1 pc = .ok (.astore i, 2)) (hn : i < loc.length) (k : mc_V Mt d scr (pc + 2) (mc_set1 loc i (.ref x)) (stk) h r h' nc ns) : mc_V Mt d scr pc loc (.ref x :: stk) h r h' nc ns := by
  intro p l e R s m args below meth c H locs cells slots Q ls G C K X P S L hR E
  exact lv_astore C.1 C.2.1 hd L.1 (by rw [← L.2]; exact hn) rfl (fun ls' hl => k p l e R s m args below meth c H locs cells slots Q ls' G C K X P S (mc_store1 (v := (.ref x)) L.2 hl) hR E)
theorem mr_iinc {i : Nat} {n : Int} {x : Int32} (hd : decode Mt.2.1 pc = .ok (.iinc i n, 3)) (hl : loc[i]? = some (.int x)) (k : mc_V Mt d scr (pc + 3) (mc_set1 loc i (.int (x + Int32.ofInt n))) (stk) h r h' nc ns) : mc_V Mt d scr pc loc (stk) h r h' nc ns := by
  intro p l e R s m args below meth c H locs cells slots Q ls G C K X P S L hR E
  have hm : (i, Value.int x) ∈ mc_lv G loc := mc_lv_mem.mpr ⟨.int x, hl, by simp, rfl⟩
  obtain ⟨q, hq⟩ := List.getElem?_of_mem hm
  exact lv_iinc (x := x) C.1 C.2.1 hd L.1 hq rfl (by rw [← L.2]; exact (List.getElem?_eq_some_iff.mp hl).1) rfl (fun ls' hl => k p l e R s m args below meth c H locs cells slots Q ls' G C K X P S (mc_store1 (v := .int (x + Int32.ofInt n)) L.2 hl) hR E)
theorem mr_iadd {x y : Int32} (hd : decode Mt.2.1 pc = .ok (.iadd, 1)) (k : mc_V Mt d scr (pc + 1) loc (.int (x + y) :: stk) h r h' nc ns) : mc_V Mt d scr pc loc (.int y :: .int x :: stk) h r h' nc ns := k.go (fun _ _ _ _ _ _ _ _ _ _ _ _ _ _ _ _ _ C K X P S L w => lv_iadd C.1 C.2.1 hd w)
theorem mr_isub {x y : Int32} (hd : decode Mt.2.1 pc = .ok (.isub, 1)) (k : mc_V Mt d scr (pc + 1) loc (.int (x - y) :: stk) h r h' nc ns) : mc_V Mt d scr pc loc (.int y :: .int x :: stk) h r h' nc ns := k.go (fun _ _ _ _ _ _ _ _ _ _ _ _ _ _ _ _ _ C K X P S L w => lv_isub C.1 C.2.1 hd w)
theorem mr_imul {x y : Int32} (hd : decode Mt.2.1 pc = .ok (.imul, 1)) (k : mc_V Mt d scr (pc + 1) loc (.int (x * y) :: stk) h r h' nc ns) : mc_V Mt d scr pc loc (.int y :: .int x :: stk) h r h' nc ns := k.go (fun _ _ _ _ _ _ _ _ _ _ _ _ _ _ _ _ _ C K X P S L w => lv_imul C.1 C.2.1 hd w)
theorem mr_iand {x y : Int32} (hd : decode Mt.2.1 pc = .ok (.iand, 1)) (k : mc_V Mt d scr (pc + 1) loc (.int (x &&& y) :: stk) h r h' nc ns) : mc_V Mt d scr pc loc (.int y :: .int x :: stk) h r h' nc ns := k.go (fun _ _ _ _ _ _ _ _ _ _ _ _ _ _ _ _ _ C K X P S L w => lv_iand C.1 C.2.1 hd w)
theorem mr_ior {x y : Int32} (hd : decode Mt.2.1 pc = .ok (.ior, 1)) (k : mc_V Mt d scr (pc + 1) loc (.int (x ||| y) :: stk) h r h' nc ns) : mc_V Mt d scr pc loc (.int y :: .int x :: stk) h r h' nc ns := k.go (fun _ _ _ _ _ _ _ _ _ _ _ _ _ _ _ _ _ C K X P S L w => lv_ior C.1 C.2.1 hd w)
theorem mr_ixor {x y : Int32} (hd : decode Mt.2.1 pc = .ok (.ixor, 1)) (k : mc_V Mt d scr (pc + 1) loc (.int (x ^^^ y) :: stk) h r h' nc ns) : mc_V Mt d scr pc loc (.int y :: .int x :: stk) h r h' nc ns := k.go (fun _ _ _ _ _ _ _ _ _ _ _ _ _ _ _ _ _ C K X P S L w => lv_ixor C.1 C.2.1 hd w)
theorem mr_ishl {x y : Int32} (hd : decode Mt.2.1 pc = .ok (.ishl, 1)) (k : mc_V Mt d scr (pc + 1) loc (.int (x <<< (y &&& 31)) :: stk) h r h' nc ns) : mc_V Mt d scr pc loc (.int y :: .int x :: stk) h r h' nc ns := k.go (fun _ _ _ _ _ _ _ _ _ _ _ _ _ _ _ _ _ C K X P S L w => lv_ishl C.1 C.2.1 hd w)
theorem mr_ishr {x y : Int32} (hd : decode Mt.2.1 pc = .ok (.ishr, 1)) (k : mc_V Mt d scr (pc + 1) loc (.int (x >>> (y &&& 31)) :: stk) h r h' nc ns) : mc_V Mt d scr pc loc (.int y :: .int x :: stk) h r h' nc ns := k.go (fun _ _ _ _ _ _ _ _ _ _ _ _ _ _ _ _ _ C K X P S L w => lv_ishr C.1 C.2.1 hd w)
theorem mr_irem {x y : Int32} (hd : decode Mt.2.1 pc = .ok (.irem, 1)) (hne : ¬ y = 0) (k : mc_V Mt d scr (pc + 1) loc (.int (x - x / y * y) :: stk) h r h' nc ns) : mc_V Mt d scr pc loc (.int y :: .int x :: stk) h r h' nc ns := k.go (fun _ _ _ _ _ _ _ _ _ _ _ _ _ _ _ _ _ C K X P S L w => lv_irem C.1 C.2.1 hd hne w)
theorem mr_iushr {x y : Int32} (hd : decode Mt.2.1 pc = .ok (.iushr, 1)) (k : mc_V Mt d scr (pc + 1) loc (.int (x.toUInt32 >>> (y.toUInt32 &&& Int32.toUInt32 31)).toInt32 :: stk) h r h' nc ns) : mc_V Mt d scr pc loc (.int y :: .int x :: stk) h r h' nc ns := k.go (fun _ _ _ _ _ _ _ _ _ _ _ _ _ _ _ _ _ C K X P S L w => lv_iushr C.1 C.2.1 hd rfl w)
theorem mr_ineg {x : Int32} (hd : decode Mt.2.1 pc = .ok (.ineg, 1)) (k : mc_V Mt d scr (pc + 1) loc (.int (-x) :: stk) h r h' nc ns) : mc_V Mt d scr pc loc (.int x :: stk) h r h' nc ns := k.go (fun _ _ _ _ _ _ _ _ _ _ _ _ _ _ _ _ _ C K X P S L w => lv_ineg C.1 C.2.1 hd w)
theorem mr_i2l {x : Int32} (hd : decode Mt.2.1 pc = .ok (.i2l, 1)) (k : mc_V Mt d scr (pc + 1) loc (.long x.toInt64 :: stk) h r h' nc ns) : mc_V Mt d scr pc loc (.int x :: stk) h r h' nc ns := k.go (fun _ _ _ _ _ _ _ _ _ _ _ _ _ _ _ _ _ C K X P S L w => lv_i2l C.1 C.2.1 hd rfl w)
theorem mr_i2s {x : Int32} (hd : decode Mt.2.1 pc = .ok (.i2s, 1)) (k : mc_V Mt d scr (pc + 1) loc (.int x.toInt16.toInt32 :: stk) h r h' nc ns) : mc_V Mt d scr pc loc (.int x :: stk) h r h' nc ns := k.go (fun _ _ _ _ _ _ _ _ _ _ _ _ _ _ _ _ _ C K X P S L w => lv_i2s C.1 C.2.1 hd rfl w)
theorem mr_ladd {x y : Int64} (hd : decode Mt.2.1 pc = .ok (.ladd, 1)) (k : mc_V Mt d scr (pc + 1) loc (.long (x + y) :: stk) h r h' nc ns) : mc_V Mt d scr pc loc (.long y :: .long x :: stk) h r h' nc ns := k.go (fun _ _ _ _ _ _ _ _ _ _ _ _ _ _ _ _ _ C K X P S L w => lv_ladd C.1 C.2.1 hd w)
theorem mr_lsub {x y : Int64} (hd : decode Mt.2.1 pc = .ok (.lsub, 1)) (k : mc_V Mt d scr (pc + 1) loc (.long (x - y) :: stk) h r h' nc ns) : mc_V Mt d scr pc loc (.long y :: .long x :: stk) h r h' nc ns := k.go (fun _ _ _ _ _ _ _ _ _ _ _ _ _ _ _ _ _ C K X P S L w => lv_lsub C.1 C.2.1 hd w)
theorem mr_lmul {x y : Int64} (hd : decode Mt.2.1 pc = .ok (.lmul, 1)) (k : mc_V Mt d scr (pc + 1) loc (.long (x * y) :: stk) h r h' nc ns) : mc_V Mt d scr pc loc (.long y :: .long x :: stk) h r h' nc ns := k.go (fun _ _ _ _ _ _ _ _ _ _ _ _ _ _ _ _ _ C K X P S L w => lv_lmul C.1 C.2.1 hd w)
theorem mr_ldiv {x y : Int64} (hd : decode Mt.2.1 pc = .ok (.ldiv, 1)) (hne : ¬ y = 0) (k : mc_V Mt d scr (pc + 1) loc (.long (x / y) :: stk) h r h' nc ns) : mc_V Mt d scr pc loc (.long y :: .long x :: stk) h r h' nc ns := k.go (fun _ _ _ _ _ _ _ _ _ _ _ _ _ _ _ _ _ C K X P S L w => lv_ldiv C.1 C.2.1 hd hne w)
theorem mr_lrem {x y : Int64} (hd : decode Mt.2.1 pc = .ok (.lrem, 1)) (hne : ¬ y = 0) (k : mc_V Mt d scr (pc + 1) loc (.long (x - x / y * y) :: stk) h r h' nc ns) : mc_V Mt d scr pc loc (.long y :: .long x :: stk) h r h' nc ns := k.go (fun _ _ _ _ _ _ _ _ _ _ _ _ _ _ _ _ _ C K X P S L w => lv_lrem C.1 C.2.1 hd hne w)
theorem mr_lneg {x : Int64} (hd : decode Mt.2.1 pc = .ok (.lneg, 1)) (k : mc_V Mt d scr (pc + 1) loc (.long (-x) :: stk) h r h' nc ns) : mc_V Mt d scr pc loc (.long x :: stk) h r h' nc ns := k.go (fun _ _ _ _ _ _ _ _ _ _ _ _ _ _ _ _ _ C K X P S L w => lv_lneg C.1 C.2.1 hd w)
theorem mr_lcmp {x y : Int64} (hd : decode Mt.2.1 pc = .ok (.lcmp, 1)) (k : mc_V Mt d scr (pc + 1) loc (.int (lg_cmp x y) :: stk) h r h' nc ns) : mc_V Mt d scr pc loc (.long y :: .long x :: stk) h r h' nc ns := k.go (fun _ _ _ _ _ _ _ _ _ _ _ _ _ _ _ _ _ C K X P S L w => W.lcmp C.1 C.2.1 hd w)
theorem mr_dup {x : Value} (hd : decode Mt.2.1 pc = .ok (.dup, 1)) (hx : x.category = 1) (k : mc_V Mt d scr (pc + 1) loc (x :: x :: stk) h r h' nc ns) : mc_V Mt d scr pc loc (x :: stk) h r h' nc ns := k.go (fun _ _ _ _ _ _ _ _ _ _ _ _ _ _ _ _ G C K X P S L w => lv_dup C.1 C.2.1 hd (by rw [mc_cat G]; exact hx) w)
theorem mr_dup2 {x y : Value} (hd : decode Mt.2.1 pc = .ok (.dup2, 1)) (hx : x.category = 1) (hy : y.category = 1) (k : mc_V Mt d scr (pc + 1) loc (x :: y :: x :: y :: stk) h r h' nc ns) : mc_V Mt d scr pc loc (x :: y :: stk) h r h' nc ns := k.go (fun _ _ _ _ _ _ _ _ _ _ _ _ _ _ _ _ G C K X P S L w => lv_dup2_11 C.1 C.2.1 hd (by rw [mc_cat G]; exact hx) (by rw [mc_cat G]; exact hy) w)
theorem mr_dup2l {x : Value} (hd : decode Mt.2.1 pc = .ok (.dup2, 1)) (hx : x.category = 2) (k : mc_V Mt d scr (pc + 1) loc (x :: x :: stk) h r h' nc ns) : mc_V Mt d scr pc loc (x :: stk) h r h' nc ns := k.go (fun _ _ _ _ _ _ _ _ _ _ _ _ _ _ _ _ G C K X P S L w => lv_dup2_2 C.1 C.2.1 hd (by rw [mc_cat G]; exact hx) w)
theorem mr_goto {off : Int} (tgt : Nat) (hd : decode Mt.2.1 pc = .ok (.goto off, 3)) (ht : (pc : Int) + off = (tgt : Int)) (k : mc_V Mt d scr tgt loc (stk) h r h' nc ns) : mc_V Mt d scr pc loc (stk) h r h' nc ns := k.go (fun _ _ _ _ _ _ _ _ _ _ _ _ _ _ _ _ _ C K X P S L w => lv_goto C.1 C.2.1 hd ht w)
theorem mr_if_eq {x : Int32} {off : Int} (tgt : Nat) (hd : decode Mt.2.1 pc = .ok (.ifCond .eq off, 3)) (ht : (pc : Int) + off = (tgt : Int)) (kt : x = 0 → mc_V Mt d scr tgt loc (stk) h r h' nc ns) (kf : ¬ x = 0 → mc_V Mt d scr (pc + 3) loc (stk) h r h' nc ns) : mc_V Mt d scr pc loc (.int x :: stk) h r h' nc ns := mc_V.br kt kf (fun _ _ _ _ _ _ _ _ _ _ _ _ _ _ _ _ _ C kt kf => lv_if_eq C.1 C.2.1 hd ht kt kf)
theorem mr_icmp_eq {x y : Int32} {off : Int} (tgt : Nat) (hd : decode Mt.2.1 pc = .ok (.if_icmp .eq off, 3)) (ht : (pc : Int) + off = (tgt : Int)) (kt : x = y → mc_V Mt d scr tgt loc (stk) h r h' nc ns) (kf : ¬ x = y → mc_V Mt d scr (pc + 3) loc (stk) h r h' nc ns) : mc_V Mt d scr pc loc (.int y :: .int x :: stk) h r h' nc ns := mc_V.br kt kf (fun _ _ _ _ _ _ _ _ _ _ _ _ _ _ _ _ _ C kt kf => lv_icmp_eq C.1 C.2.1 hd ht kt kf)
theorem mr_if_lt {x : Int32} {off : Int} (tgt : Nat) (hd : decode Mt.2.1 pc = .ok (.ifCond .lt off, 3)) (ht : (pc : Int) + off = (tgt : Int)) (kt : x < 0 → mc_V Mt d scr tgt loc (stk) h r h' nc ns) (kf : ¬ x < 0 → mc_V Mt d scr (pc + 3) loc (stk) h r h' nc ns) : mc_V Mt d scr pc loc (.int x :: stk) h r h' nc ns := mc_V.br kt kf (fun _ _ _ _ _ _ _ _ _ _ _ _ _ _ _ _ _ C kt kf => lv_if_lt C.1 C.2.1 hd ht kt kf)
theorem mr_icmp_lt {x y : Int32} {off : Int} (tgt : Nat) (hd : decode Mt.2.1 pc = .ok (.if_icmp .lt off, 3)) (ht : (pc : Int) + off = (tgt : Int)) (kt : x < y → mc_V Mt d scr tgt loc (stk) h r h' nc ns) (kf : ¬ x < y → mc_V Mt d scr (pc + 3) loc (stk) h r h' nc ns) : mc_V Mt d scr pc loc (.int y :: .int x :: stk) h r h' nc ns := mc_V.br kt kf (fun _ _ _ _ _ _ _ _ _ _ _ _ _ _ _ _ _ C kt kf => lv_icmp_lt C.1 C.2.1 hd ht kt kf)
theorem mr_if_ge {x : Int32} {off : Int} (tgt : Nat) (hd : decode Mt.2.1 pc = .ok (.ifCond .ge off, 3)) (ht : (pc : Int) + off = (tgt : Int)) (kt : 0 ≤ x → mc_V Mt d scr tgt loc (stk) h r h' nc ns) (kf : ¬ 0 ≤ x → mc_V Mt d scr (pc + 3) loc (stk) h r h' nc ns) : mc_V Mt d scr pc loc (.int x :: stk) h r h' nc ns := mc_V.br kt kf (fun _ _ _ _ _ _ _ _ _ _ _ _ _ _ _ _ _ C kt kf => lv_if_ge C.1 C.2.1 hd ht kt kf)
theorem mr_icmp_ge {x y : Int32} {off : Int} (tgt : Nat) (hd : decode Mt.2.1 pc = .ok (.if_icmp .ge off, 3)) (ht : (pc : Int) + off = (tgt : Int)) (kt : y ≤ x → mc_V Mt d scr tgt loc (stk) h r h' nc ns) (kf : ¬ y ≤ x → mc_V Mt d scr (pc + 3) loc (stk) h r h' nc ns) : mc_V Mt d scr pc loc (.int y :: .int x :: stk) h r h' nc ns := mc_V.br kt kf (fun _ _ _ _ _ _ _ _ _ _ _ _ _ _ _ _ _ C kt kf => lv_icmp_ge C.1 C.2.1 hd ht kt kf)
theorem mr_if_gt {x : Int32} {off : Int} (tgt : Nat) (hd : decode Mt.2.1 pc = .ok (.ifCond .gt off, 3)) (ht : (pc : Int) + off = (tgt : Int)) (kt : 0 < x → mc_V Mt d scr tgt loc (stk) h r h' nc ns) (kf : ¬ 0 < x → mc_V Mt d scr (pc + 3) loc (stk) h r h' nc ns) : mc_V Mt d scr pc loc (.int x :: stk) h r h' nc ns := mc_V.br kt kf (fun _ _ _ _ _ _ _ _ _ _ _ _ _ _ _ _ _ C kt kf => lv_if_gt C.1 C.2.1 hd ht kt kf)
theorem mr_icmp_gt {x y : Int32} {off : Int} (tgt : Nat) (hd : decode Mt.2.1 pc = .ok (.if_icmp .gt off, 3)) (ht : (pc : Int) + off = (tgt : Int)) (kt : y < x → mc_V Mt d scr tgt loc (stk) h r h' nc ns) (kf : ¬ y < x → mc_V Mt d scr (pc + 3) loc (stk) h r h' nc ns) : mc_V Mt d scr pc loc (.int y :: .int x :: stk) h r h' nc ns := mc_V.br kt kf (fun _ _ _ _ _ _ _ _ _ _ _ _ _ _ _ _ _ C kt kf => lv_icmp_gt C.1 C.2.1 hd ht kt kf)
theorem mr_if_le {x : Int32} {off : Int} (tgt : Nat) (hd : decode Mt.2.1 pc = .ok (.ifCond .le off, 3)) (ht : (pc : Int) + off = (tgt : Int)) (kt : x ≤ 0 → mc_V Mt d scr tgt loc (stk) h r h' nc ns) (kf : ¬ x ≤ 0 → mc_V Mt d scr (pc + 3) loc (stk) h r h' nc ns) : mc_V Mt d scr pc loc (.int x :: stk) h r h' nc ns := mc_V.br kt kf (fun _ _ _ _ _ _ _ _ _ _ _ _ _ _ _ _ _ C kt kf => lv_if_le C.1 C.2.1 hd ht kt kf)
theorem mr_icmp_le {x y : Int32} {off : Int} (tgt : Nat) (hd : decode Mt.2.1 pc = .ok (.if_icmp .le off, 3)) (ht : (pc : Int) + off = (tgt : Int)) (kt : x ≤ y → mc_V Mt d scr tgt loc (stk) h r h' nc ns) (kf : ¬ x ≤ y → mc_V Mt d scr (pc + 3) loc (stk) h r h' nc ns) : mc_V Mt d scr pc loc (.int y :: .int x :: stk) h r h' nc ns := mc_V.br kt kf (fun _ _ _ _ _ _ _ _ _ _ _ _ _ _ _ _ _ C kt kf => lv_icmp_le C.1 C.2.1 hd ht kt kf)
theorem mr_if_ne {x : Int32} {off : Int} (tgt : Nat) (hd : decode Mt.2.1 pc = .ok (.ifCond .ne off, 3)) (ht : (pc : Int) + off = (tgt : Int)) (kt : ¬ x = 0 → mc_V Mt d scr tgt loc (stk) h r h' nc ns) (kf : x = 0 → mc_V Mt d scr (pc + 3) loc (stk) h r h' nc ns) : mc_V Mt d scr pc loc (.int x :: stk) h r h' nc ns := mc_V.br kf kt (fun _ _ _ _ _ _ _ _ _ _ _ _ _ _ _ _ _ C kt kf => lv_if_ne C.1 C.2.1 hd ht kf kt)
theorem mr_icmp_ne {x y : Int32} {off : Int} (tgt : Nat) (hd : decode Mt.2.1 pc = .ok (.if_icmp .ne off, 3)) (ht : (pc : Int) + off = (tgt : Int)) (kt : ¬ x = y → mc_V Mt d scr tgt loc (stk) h r h' nc ns) (kf : x = y → mc_V Mt d scr (pc + 3) loc (stk) h r h' nc ns) : mc_V Mt d scr pc loc (.int y :: .int x :: stk) h r h' nc ns := mc_V.br kf kt (fun _ _ _ _ _ _ _ _ _ _ _ _ _ _ _ _ _ C kt kf => lv_icmp_ne C.1 C.2.1 hd ht kf kt)
theorem mr_tabOut {dflt lo hi : Int} {offs : Array Int} {len : Nat} {x : Int32} (tgt : Nat) (hd : decode Mt.2.1 pc = .ok (.tableswitch dflt lo hi offs, len)) (hx : x.toInt < lo ∨ hi < x.toInt) (ht : (pc : Int) + dflt = (tgt : Int)) (k : mc_V Mt d scr tgt loc (stk) h r h' nc ns) : mc_V Mt d scr pc loc (.int x :: stk) h r h' nc ns := k.go (fun _ _ _ _ _ _ _ _ _ _ _ _ _ _ _ _ _ C K X P S L w => lv_tableOut C.1 C.2.1 hd hx ht w)
theorem mr_tabIn {dflt lo hi : Int} {offs : Array Int} {len : Nat} {x : Int32} (off : Int) (tgt : Nat) (hd : decode Mt.2.1 pc = .ok (.tableswitch dflt lo hi offs, len)) (h1 : ¬ x.toInt < lo) (h2 : ¬ hi < x.toInt) (ho : offs[(x.toInt - lo).toNat]? = some off) (ht : (pc : Int) + off = (tgt : Int)) (k : mc_V Mt d scr tgt loc (stk) h r h' nc ns) : mc_V Mt d scr pc loc (.int x :: stk) h r h' nc ns := k.go (fun _ _ _ _ _ _ _ _ _ _ _ _ _ _ _ _ _ C K X P S L w => lv_tableIn C.1 C.2.1 hd h1 h2 ho ht w)
theorem mr_lookup {dflt : Int} {ps : Array (Int × Int)} {len : Nat} {x : Int32} (off : Int) (tgt : Nat) (hd : decode Mt.2.1 pc = .ok (.lookupswitch dflt ps, len)) (hp : (ps.toList.zip (ps.toList.drop 1)).all (fun (a, next) => a.1 < next.1) = true) (ho : Op.lookupswitch.offset ps.toList dflt x.toInt = off) (ht : (pc : Int) + off = (tgt : Int)) (k : mc_V Mt d scr tgt loc (stk) h r h' nc ns) : mc_V Mt d scr pc loc (.int x :: stk) h r h' nc ns := k.go (fun _ _ _ _ _ _ _ _ _ _ _ _ _ _ _ _ _ C K X P S L w => lv_lookup C.1 C.2.1 hd hp ho ht w)
theorem mr_getf {a ci : Nat} {C : String} {T : u_T} {N idx : Nat} {fs : List Value} {v : Value} (hin : ∀ w ∈ u_ws C T N, w ∈ mc_tbl) (hc : mc_cl[ci]? = some (C, T, N)) (f : Nat) (hf : f < N) (hw : Cond.fieldLink Mt.1.cls idx (T f).1 (T f).2.1 (T f).2.2.1 ∈ mc_tbl) (hd : decode Mt.2.1 pc = .ok (.getfield idx, 3)) (ha : h[a]? = some (.inl (ci, fs))) (hv : fs[f]? = some v) (k : mc_V Mt d scr (pc + 3) loc (v :: stk) h r h' nc ns) : mc_V Mt d scr pc loc (.ref (a + 1) :: stk) h r h' nc ns :=
  k.go (fun _ _ _ _ _ _ _ _ _ _ _ _ _ _ _ _ G C K X P S L w => va_get C.1 C.2.1 (fun w h => C.2.2.2.2.2.2.1 _ w h) hin C.2.2.2.2.2.1 K P.1 a (mc_W_get ha) hc f hf (C.2.2.2.2.2.2.1 _ _ hw) (fun _ q => q) (by rw [List.getElem?_map, hv]; rfl) hd w)
theorem mr_getfN {a ci : Nat} {C host : String} {T : u_T} {N idx : Nat} {fs : List Value} {v : Value} (hin : ∀ w ∈ u_ws C T N, w ∈ mc_tbl) (hc : mc_cl[ci]? = some (C, T, N)) (f : Nat) (hf : f < N) (hw : Cond.fieldLinkNest Mt.1.cls idx (T f).1 (T f).2.1 (T f).2.2.1 host ∈ mc_tbl) (hd : decode Mt.2.1 pc = .ok (.getfield idx, 3)) (ha : h[a]? = some (.inl (ci, fs))) (hv : fs[f]? = some v) (k : mc_V Mt d scr (pc + 3) loc (v :: stk) h r h' nc ns) : mc_V Mt d scr pc loc (.ref (a + 1) :: stk) h r h' nc ns :=
  k.go (fun _ _ _ _ _ _ _ _ _ _ _ _ _ _ _ _ G C K X P S L w => va_getN C.1 C.2.1 (fun w h => C.2.2.2.2.2.2.1 _ w h) hin C.2.2.2.2.2.1 K P.1 a (mc_W_get ha) hc f hf (C.2.2.2.2.2.2.1 _ _ hw) (fun _ q => q) (by rw [List.getElem?_map, hv]; rfl) hd w)
theorem mr_iald {a n : Nat} {f : Nat → Int32} {i : Int32} (hd : decode Mt.2.1 pc = .ok (.iaload, 1)) (ha : h[a]? = some (.inr (.inl (.int, n, f)))) (hi : vp_in i n) (k : mc_V Mt d scr (pc + 1) loc (.int (f i.toNatClampNeg) :: stk) h r h' nc ns) : mc_V Mt d scr pc loc (.int i :: .ref (a + 1) :: stk) h r h' nc ns := k.go (fun _ _ _ _ _ _ _ _ _ _ _ _ _ _ _ _ _ C K X P S L w => va_iald C.1 C.2.1 K P.1 a 0 (mc_W_get ha) rfl hi hd w)
theorem mr_sald {a n : Nat} {f : Nat → Int32} {i : Int32} (hd : decode Mt.2.1 pc = .ok (.saload, 1)) (ha : h[a]? = some (.inr (.inl (.short, n, f)))) (hi : vp_in i n) (k : mc_V Mt d scr (pc + 1) loc (.int (f i.toNatClampNeg) :: stk) h r h' nc ns) : mc_V Mt d scr pc loc (.int i :: .ref (a + 1) :: stk) h r h' nc ns := k.go (fun _ _ _ _ _ _ _ _ _ _ _ _ _ _ _ _ _ C K X P S L w => va_sald C.1 C.2.1 K P.1 a 2 (mc_W_get ha) rfl hi hd w)
theorem mr_zald {a n : Nat} {f : Nat → Int32} {i : Int32} (hd : decode Mt.2.1 pc = .ok (.baload, 1)) (ha : h[a]? = some (.inr (.inl (.boolean, n, f)))) (hi : vp_in i n) (k : mc_V Mt d scr (pc + 1) loc (.int (f i.toNatClampNeg) :: stk) h r h' nc ns) : mc_V Mt d scr pc loc (.int i :: .ref (a + 1) :: stk) h r h' nc ns := k.go (fun _ _ _ _ _ _ _ _ _ _ _ _ _ _ _ _ _ C K X P S L w => va_zald C.1 C.2.1 K P.1 a 3 (mc_W_get ha) rfl hi hd w)
theorem mr_lald {a n : Nat} {f : Nat → Int64} {i : Int32} (hd : decode Mt.2.1 pc = .ok (.laload, 1)) (ha : h[a]? = some (.inr (.inr (.inl (n, f))))) (hi : vp_in i n) (k : mc_V Mt d scr (pc + 1) loc (.long (f i.toNatClampNeg) :: stk) h r h' nc ns) : mc_V Mt d scr pc loc (.int i :: .ref (a + 1) :: stk) h r h' nc ns := k.go (fun _ _ _ _ _ _ _ _ _ _ _ _ _ _ _ _ _ C K X P S L w => va_lald C.1 C.2.1 K P.1 a 1 (mc_W_get ha) rfl hi hd w)
theorem mr_aald {a n : Nat} {f : Nat → Option Nat} {i : Int32} {b : Nat} (hd : decode Mt.2.1 pc = .ok (.aaload, 1)) (ha : h[a]? = some (.inr (.inr (.inr (n, f))))) (hi : vp_in i n) (hb : f i.toNatClampNeg = some b) (k : mc_V Mt d scr (pc + 1) loc (.ref b :: stk) h r h' nc ns) : mc_V Mt d scr pc loc (.int i :: .ref (a + 1) :: stk) h r h' nc ns :=
  k.go (fun _ _ _ _ _ _ _ _ _ _ _ _ _ _ _ _ G C K X P S L w => by
    have hlt : i.toNatClampNeg < n := Nat.not_le.mp fun q => hi (Or.inr q)
    have hK := (K.2 4 _ rfl).1 n (fun j => va_rf ((f j).map (mc_ad G)))
    refine W.aald (v := va_rf ((f i.toNatClampNeg).map (mc_ad G))) (ty := .array .long) C.1 C.2.1 (P.1 a _ (mc_W_get ha)) hK rfl (fun q => by cases q) (by show ¬ (i < 0 ∨ (arrV _ _ _).slots.size ≤ _); rw [arrV_size]; exact hi) (by show (arrV _ _ _).slots[_]? = _; rw [arrV_read _ _ hlt]) rfl rfl hd ?_
    rw [hb]
    exact w)
theorem mr_slen {L : Nat} {xs : Nat → Int32} (hs : scr = some (L, xs)) (hd : decode Mt.2.1 pc = .ok (.arraylength, 1)) (k : mc_V Mt d scr (pc + 1) loc (.int (Int32.ofNat L) :: stk) h r h' nc ns) : mc_V Mt d scr pc loc (.ref 0 :: stk) h r h' nc ns := by
  subst hs
  exact k.go (fun _ _ _ _ _ _ _ _ _ _ _ _ _ _ _ _ G C K X P S L w => va_slen C.1 C.2.1 X.1 (Nat.lt_of_lt_of_le X.2 S.2) (Nat.not_le.mpr X.2) S.1 hd w)
theorem mr_sld {L : Nat} {xs : Nat → Int32} {i : Int32} (hs : scr = some (L, xs)) (hd : decode Mt.2.1 pc = .ok (.iaload, 1)) (hi : vp_in i L) (k : mc_V Mt d scr (pc + 1) loc (.int (xs i.toNatClampNeg) :: stk) h r h' nc ns) : mc_V Mt d scr pc loc (.int i :: .ref 0 :: stk) h r h' nc ns := by
  subst hs
  exact k.go (fun _ _ _ _ _ _ _ _ _ _ _ _ _ _ _ _ G C K X P S L w => va_sld C.1 C.2.1 X.1 (Nat.lt_of_lt_of_le X.2 S.2) (Nat.not_le.mpr X.2) S.1 hi hd w)
end MR
end
section
/-! ===== THE ROWS THAT WRITE ===== -/
section MW
variable {Mt : mc_M} {d : Nat} {scr : Option (Nat × (Nat → Int32))} {pc : Nat} {loc stk : List Value} {h : mc_H} {r : Option Value} {h' : mc_H} {nc ns : Nat}
/-- a cell is written over -/
theorem mc_P.put {G : mc_G} {h : mc_H} {H H1 : Heap} {a : Nat} {x0 x : mc_Cell} (P : mc_P G h H) (ha : h[a]? = some x0) (he : va_at G.1 mc_cl (mc_ad G (a + 1), mc_E G x) H1) (z : H1.size = H.size) (oq : ∀ q : Nat, q ≠ mc_ad G (a + 1) → H1[q]? = H[q]?) : mc_P G (h.set a x) H1 := by
  refine ⟨?_, by rw [z, P.2, List.length_set]⟩
  rw [← mc_W_set]
  exact P.1.set (mc_D G h) (mc_W_get ha) he oq
theorem mc_S.put {G : mc_G} {s : State} {H H1 : Heap} {locs : List Loc} {a k : Nat} (S : mc_S G s H locs) (z : H1.size = H.size) (oq : ∀ q : Nat, q ≠ mc_ad G (a + 1) → H1[q]? = H[q]?) : mc_S G s H1 (locs ++ [⟨mc_ad G (a + 1), k⟩]) :=
  ⟨S.1.put z oq (show G.2.2.2 ≤ G.2.2.2 + a by omega), S.2⟩
theorem mr_iast {a n : Nat} {f : Nat → Int32} {i x : Int32} (hd : decode Mt.2.1 pc = .ok (.iastore, 1)) (ha : h[a]? = some (.inr (.inl (.int, n, f)))) (hi : vp_in i n) (k : mc_V Mt d scr (pc + 1) loc (stk) (h.set a (.inr (.inl (.int, n, upd f i.toNatClampNeg x)))) r h' nc ns) : mc_V Mt d scr pc loc (.int x :: .int i :: .ref (a + 1) :: stk) h r h' nc ns := by
  intro p l e R s m args below meth c H locs cells slots Q ls G C K X P S L hR E
  refine W.iast C.1 C.2.1 (P.1 a _ (mc_W_get ha)) ((K.2 0 _ rfl).1 n (fun j => .int (f j))) (fun q => by cases q) (by show ¬ (i < 0 ∨ (arrV _ _ _).slots.size ≤ _); rw [arrV_size]; exact hi) rfl rfl hd fun H1 e1 z oq => ?_
  refine k p l e R s m args below meth c H1 _ cells slots Q ls G C K X (P.put ha ?_ z oq) (S.put z oq) L hR E
  show H1[mc_ad G (a + 1)]? = some (vp_cell _ _)
  rw [e1]
  rw [vp_cell_i, vp_cell_i, arrV_store]
  congr 2
  funext q
  by_cases hq : q = i.toNatClampNeg
  · subst hq
    simp [updV, upd]
    try rfl
  · simp [updV, upd, hq]
theorem mr_sast {a n : Nat} {f : Nat → Int32} {i x : Int32} (hd : decode Mt.2.1 pc = .ok (.sastore, 1)) (ha : h[a]? = some (.inr (.inl (.short, n, f)))) (hi : vp_in i n) (k : mc_V Mt d scr (pc + 1) loc (stk) (h.set a (.inr (.inl (.short, n, upd f i.toNatClampNeg (vp_nar .short x))))) r h' nc ns) : mc_V Mt d scr pc loc (.int x :: .int i :: .ref (a + 1) :: stk) h r h' nc ns := by
  intro p l e R s m args below meth c H locs cells slots Q ls G C K X P S L hR E
  refine W.sast C.1 C.2.1 (P.1 a _ (mc_W_get ha)) ((K.2 2 _ rfl).1 n (fun j => .int (f j))) (fun q => by cases q) (by show ¬ (i < 0 ∨ (arrV _ _ _).slots.size ≤ _); rw [arrV_size]; exact hi) rfl rfl hd fun H1 e1 z oq => ?_
  refine k p l e R s m args below meth c H1 _ cells slots Q ls G C K X (P.put ha ?_ z oq) (S.put z oq) L hR E
  show H1[mc_ad G (a + 1)]? = some (vp_cell _ _)
  rw [e1]
  rw [vp_cell_i, vp_cell_i, arrV_store]
  congr 2
  funext q
  by_cases hq : q = i.toNatClampNeg
  · subst hq
    simp [updV, upd, vp_nar]
    try rfl
  · simp [updV, upd, hq]
theorem mr_zast {a n : Nat} {f : Nat → Int32} {i x : Int32} (hd : decode Mt.2.1 pc = .ok (.bastore, 1)) (ha : h[a]? = some (.inr (.inl (.boolean, n, f)))) (hi : vp_in i n) (k : mc_V Mt d scr (pc + 1) loc (stk) (h.set a (.inr (.inl (.boolean, n, upd f i.toNatClampNeg (vp_nar .boolean x))))) r h' nc ns) : mc_V Mt d scr pc loc (.int x :: .int i :: .ref (a + 1) :: stk) h r h' nc ns := by
  intro p l e R s m args below meth c H locs cells slots Q ls G C K X P S L hR E
  refine W.zast C.1 C.2.1 (P.1 a _ (mc_W_get ha)) ((K.2 3 _ rfl).1 n (fun j => .int (f j))) (fun q => by cases q) (by show ¬ (i < 0 ∨ (arrV _ _ _).slots.size ≤ _); rw [arrV_size]; exact hi) rfl rfl hd fun H1 e1 z oq => ?_
  refine k p l e R s m args below meth c H1 _ cells slots Q ls G C K X (P.put ha ?_ z oq) (S.put z oq) L hR E
  show H1[mc_ad G (a + 1)]? = some (vp_cell _ _)
  rw [e1]
  rw [vp_cell_i, vp_cell_i, arrV_store]
  congr 2
  funext q
  by_cases hq : q = i.toNatClampNeg
  · subst hq
    simp [updV, upd, vp_nar]
    try rfl
  · simp [updV, upd, hq]
theorem mr_last {a n : Nat} {f : Nat → Int64} {i : Int32} {x : Int64} (hd : decode Mt.2.1 pc = .ok (.lastore, 1)) (ha : h[a]? = some (.inr (.inr (.inl (n, f))))) (hi : vp_in i n) (k : mc_V Mt d scr (pc + 1) loc (stk) (h.set a (.inr (.inr (.inl (n, vp_updL f i.toNatClampNeg x))))) r h' nc ns) : mc_V Mt d scr pc loc (.long x :: .int i :: .ref (a + 1) :: stk) h r h' nc ns := by
  intro p l e R s m args below meth c H locs cells slots Q ls G C K X P S L hR E
  refine W.last C.1 C.2.1 (P.1 a _ (mc_W_get ha)) ((K.2 1 _ rfl).1 n (fun j => .long (f j))) (fun q => by cases q) (by show ¬ (i < 0 ∨ (arrV _ _ _).slots.size ≤ _); rw [arrV_size]; exact hi) rfl rfl hd fun H1 e1 z oq => ?_
  refine k p l e R s m args below meth c H1 _ cells slots Q ls G C K X (P.put ha ?_ z oq) (S.put z oq) L hR E
  show H1[mc_ad G (a + 1)]? = some (vp_cell _ _)
  rw [e1]
  rw [vp_cell_l, vp_cell_l, arrV_store]
  congr 2
  funext q
  by_cases hq : q = i.toNatClampNeg
  · subst hq
    simp [updV, vp_updL]
  · simp [updV, vp_updL, hq]
/-- what a field of a type may hold -/
def mc_fit : FieldType → Value → Bool
  | .int, .int _ => true
  | .long, .long _ => true
  | .boolean, .int x => x == 0 || x == 1
  | .array _, .ref _ => true
  | .object _, .ref _ => true
  | _, _ => false
theorem mc_fit_ok {G : mc_G} {ty : FieldType} {v : Value} (hf : mc_fit ty v = true) : narrow ty (mc_cv G v) = mc_cv G v ∧ fits ty (mc_cv G v) = true := by
  cases ty <;> cases v <;> first | (simp [mc_fit] at hf; done) | exact ⟨rfl, rfl⟩ | skip
  rename_i x
  have hx : x = 0 ∨ x = 1 := by simpa [mc_fit] using hf
  rcases hx with rfl | rfl <;> exact ⟨by rfl, by rfl⟩
theorem mc_setmap {G : mc_G} (fs : List Value) (f : Nat) (v : Value) : (fs.map (mc_cv G)).set f (mc_cv G v) = (fs.set f v).map (mc_cv G) := by
  rw [List.map_set]
theorem mr_putf {a ci : Nat} {C0 : String} {T : u_T} {N idx : Nat} {fs : List Value} {v : Value} (hin : ∀ w ∈ u_ws C0 T N, w ∈ mc_tbl) (ty0 : Nat → FieldType) (hty : ∀ k, k < N → parseFieldDescriptor (T k).2.2.1 = some (ty0 k)) (hnm : ∀ a, a < N → ∀ b, b < N → a ≠ b → (T a).2.1 ≠ (T b).2.1) (hc : mc_cl[ci]? = some (C0, T, N)) (f : Nat) (hf : f < N) (hw : Cond.fieldLink Mt.1.cls idx (T f).1 (T f).2.1 (T f).2.2.1 ∈ mc_tbl) (hfin : (T f).2.2.2 = false) (hd : decode Mt.2.1 pc = .ok (.putfield idx, 3)) (ha : h[a]? = some (.inl (ci, fs))) (hl : f < fs.length) (hft : mc_fit (ty0 f) v = true) (k : mc_V Mt d scr (pc + 3) loc (stk) (h.set a (.inl (ci, fs.set f v))) r h' nc ns) : mc_V Mt d scr pc loc (v :: .ref (a + 1) :: stk) h r h' nc ns := by
  intro p l e R s m args below meth c H locs cells slots Q ls G C K X P S L hR E
  have hts : ∀ w ∈ mc_tbl, w.before args s = true := fun w h => C.2.2.2.2.2.2.1 _ w h
  have hap := va_apart (own := Mt.1.cls) hts hin ty0 hty hnm K hc
  obtain ⟨hn, hfit⟩ := mc_fit_ok (G := G) hft
  obtain ⟨r0, h1, cell, q1, q2, q3, q4⟩ := P.1 a _ (mc_W_get ha)
  have hr : r0 = (C0, T, N) := Option.some.inj (h1.symm.trans hc)
  subst hr
  obtain ⟨hS, hfc, kC, hkC, hkind⟩ := K.1 ci _ hc
  obtain ⟨cf, kf, fi, fd, hi, hsl⟩ := hS f hf
  have hlay := hts _ (hin _ (u_in_lay hf))
  unfold u_lay at hlay
  rw [if_neg (by rw [hfin]; decide)] at hlay
  have hst := (u_facts hfc hkC (u_lays hts hin hf) hi).1
  have h6 := u_store hfc hkC hkind hlay hi (hty f hf) hn hfit
  refine W.putK C.1 C.2.1 (f := fd) ⟨C.2.2.2.2.2.1, hts _ hw, ⟨_, _, _, hi⟩, hst⟩ (by rw [q2]; exact h6) q1 q3 (by rw [hsl]; exact k2_hasslot (q4 f hf)) rfl rfl hd fun H' e1 e2 e3 => ?_
  rw [hsl] at e1 ⊢
  refine k p l e R s m args below meth c H' _ cells slots Q ls G C K X (P.put ha ?_ e2 e3) (S.put e2 e3) L hR E
  refine ⟨_, hc, t_OB.to (V := updV (vp_V (fs.map (mc_cv G))) f (mc_cv G v)) ⟨_, e1, q2, q3, t_set q4 hap hf _⟩ (fun j _ => ?_)⟩
  rw [vp_updV_set (by rw [List.length_map]; exact hl), mc_setmap]
theorem mr_putF {a ci : Nat} {C0 : String} {T : u_T} {N idx : Nat} {fs : List Value} {v : Value} (hin : ∀ w ∈ u_ws C0 T N, w ∈ mc_tbl) (ty0 : Nat → FieldType) (hty : ∀ k, k < N → parseFieldDescriptor (T k).2.2.1 = some (ty0 k)) (hnm : ∀ a, a < N → ∀ b, b < N → a ≠ b → (T a).2.1 ≠ (T b).2.1) (hc : mc_cl[ci]? = some (C0, T, N)) (f : Nat) (hf : f < N) (hw : Cond.fieldLink Mt.1.cls idx (T f).1 (T f).2.1 (T f).2.2.1 ∈ mc_tbl) (hfin : (T f).2.2.2 = true) (hin2 : Mt.1.name = "<init>") (hdecl : (T f).1 = Mt.1.cls) (hd : decode Mt.2.1 pc = .ok (.putfield idx, 3)) (ha : h[a]? = some (.inl (ci, fs))) (hl : f < fs.length) (hft : mc_fit (ty0 f) v = true) (k : mc_V Mt d scr (pc + 3) loc (stk) (h.set a (.inl (ci, fs.set f v))) r h' nc ns) : mc_V Mt d scr pc loc (v :: .ref (a + 1) :: stk) h r h' nc ns := by
  intro p l e R s m args below meth c H locs cells slots Q ls G C K X P S L hR E
  have hts : ∀ w ∈ mc_tbl, w.before args s = true := fun w h => C.2.2.2.2.2.2.1 _ w h
  have hap := va_apart (own := Mt.1.cls) hts hin ty0 hty hnm K hc
  obtain ⟨hn, hfit⟩ := mc_fit_ok (G := G) hft
  obtain ⟨r0, h1, cell, q1, q2, q3, q4⟩ := P.1 a _ (mc_W_get ha)
  have hr : r0 = (C0, T, N) := Option.some.inj (h1.symm.trans hc)
  subst hr
  obtain ⟨hS, hfc, kC, hkC, hkind⟩ := K.1 ci _ hc
  obtain ⟨cf, kf, fi, fd, hi, hsl⟩ := hS f hf
  have hlay := hts _ (hin _ (u_in_lay hf))
  unfold u_lay at hlay
  rw [if_pos hfin] at hlay
  have hst := (u_facts hfc hkC (u_lays hts hin hf) hi).1
  have hcf : m.cls = cf := by
    obtain ⟨_, _, c', _, _, _, -, -, hf', -, -, -, hown2, -⟩ := Cond.laysFinal_spec hlay
    have e1 : c' = cf := by have := hi.symm.trans hf'; simp at this; exact this.1.symm
    rw [hdecl] at hown2
    rw [← e1]; exact Option.some.inj (C.2.2.2.2.2.1.symm.trans hown2)
  have h6 := u_fits hfc hkC hkind (Or.inr hlay) hi (hty f hf) hn hfit
  refine W.putFinK C.1 C.2.1 C.2.2.2.2.2.1 (hts _ hw) hi hst hcf (C.2.2.2.2.2.2.2 hin2) (by rw [q2]; exact h6) q1 q3 (by rw [hsl]; exact k2_hasslot (q4 f hf)) rfl rfl hd fun H' e1 e2 e3 => ?_
  rw [hsl] at e1 ⊢
  refine k p l e R s m args below meth c H' _ cells slots Q ls G C K X (P.put ha ?_ e2 e3) (S.put e2 e3) L hR E
  refine ⟨_, hc, t_OB.to (V := updV (vp_V (fs.map (mc_cv G))) f (mc_cv G v)) ⟨_, e1, q2, q3, t_set q4 hap hf _⟩ (fun j _ => ?_)⟩
  rw [vp_updV_set (by rw [List.length_map]; exact hl), mc_setmap]
end MW
end
section
/-! ===== THE WORDS, FROM A STATE TO A WARMER ONE ===== -/
theorem mc_Wd.warm {s U : State} (h : mc_Wd s) (hW : s.WarmedH U.vm) : mc_Wd U := by
  intro a w hw
  have h1 := (List.mem_filter.mp hw).2
  have h2 := h a w hw
  rcases (Bool.or_eq_true _ _).mp h1 with g | g
  · exact word_at hW (good_of_word g) h2
  · cases w <;> first | (simp [mc_nest] at g; done) | skip
    · exact va_Nw.use rfl (va_Nw.warmM hW (va_Nw.of rfl h2))
    · exact va_Nw.use rfl (va_Nw.warmF hW (va_Nw.of rfl h2))
    · rename_i t
      cases t <;> first | (simp [mc_nest] at g; done) | exact over_moved hW.alike h2
/-! ===== A METHOD's START ===== -/
def mc_flat (vs : List Value) : List Value := vs.flatMap fun v => if v.category = 2 then [v, .retAddr 0] else [v]
def mc_entry (vs : List Value) (n : Nat) : List Value := mc_flat vs ++ List.replicate (n - (mc_flat vs).length) (.retAddr 0)
theorem mc_flat_len (G : mc_G) (vs : List Value) : (lg_sl (vs.map (mc_cv G))).length = (mc_flat vs).length := by
  induction vs with
  | nil => rfl
  | cons v vs ih =>
    unfold lg_sl mc_flat at *
    rw [List.map_cons, List.flatMap_cons, List.flatMap_cons, List.length_append, List.length_append, ih, mc_cat]
    split <;> rfl
theorem mc_flat_at (G : mc_G) : ∀ (vs : List Value) (k i : Nat) (v : Value), (mc_flat vs)[i]? = some v → v ≠ .retAddr 0 → (k + i, mc_cv G v) ∈ lv_args k (vs.map (mc_cv G)) := by
  intro vs
  induction vs with
  | nil => intro k i v h; simp [mc_flat] at h
  | cons x vs ih =>
    intro k i v h hn
    have e : mc_flat (x :: vs) = (if x.category = 2 then [x, .retAddr 0] else [x]) ++ mc_flat vs := by unfold mc_flat; rw [List.flatMap_cons]
    rw [e] at h
    rw [List.map_cons]
    unfold lv_args
    rw [mc_cat]
    by_cases hx : x.category = 2
    · rw [if_pos hx] at h ⊢
      match i with
      | 0 => cases h; exact List.mem_cons_self
      | 1 => cases h; exact absurd rfl hn
      | i + 2 =>
        have h' : (mc_flat vs)[i]? = some v := by simpa using h
        have := ih (k + 2) i v h' hn
        rw [show k + (i + 2) = k + 2 + i by omega]
        exact List.mem_cons_of_mem _ this
    · rw [if_neg hx] at h ⊢
      match i with
      | 0 => cases h; exact List.mem_cons_self
      | i + 1 =>
        have h' : (mc_flat vs)[i]? = some v := by simpa using h
        have := ih (k + 1) i v h' hn
        rw [show k + (i + 1) = k + 1 + i by omega]
        exact List.mem_cons_of_mem _ this
theorem mc_LO.entry {G : mc_G} {vs : List Value} {n : Nat} (h : (mc_flat vs).length ≤ n) : mc_LO G ((lg_sl (vs.map (mc_cv G)) ++ List.replicate (n - (lg_sl (vs.map (mc_cv G))).length) Slot.unset).toArray) n (mc_entry vs n) := by
  have h1 := lv_entry (vs.map (mc_cv G)) (n := n) (by rw [mc_flat_len]; exact h)
  refine ⟨mc_has_mono h1 fun q hq => ?_, by unfold mc_entry; simp; omega⟩
  obtain ⟨v, g1, g2, g3⟩ := mc_lv_mem.mp hq
  unfold mc_entry at g1
  by_cases hl : q.1 < (mc_flat vs).length
  · rw [List.getElem?_append_left hl] at g1
    have := mc_flat_at G vs 0 q.1 v g1 g2
    rw [Nat.zero_add, ← g3] at this
    exact this
  · rw [List.getElem?_append_right (by omega), List.getElem?_replicate] at g1
    split at g1
    · cases g1; exact absurd rfl g2
    · cases g1
/-! ===== A CONTRACT ===== -/
def mc_Pc (G : mc_G) (vs : List Value) (h : mc_H) : Array Value → State → Prop := fun v U => v = (vs.map (mc_cv G)).toArray ∧ mc_Wd U ∧ mc_K G U ∧ mc_P G h U.heap
def mc_Qc (G : mc_G) (r : Option Value) (h' : mc_H) : Array Value → State → Outcome → State → Prop := fun _ st o t => o = .returned (r.map (mc_cv G)) ∧ mc_P G h' t.heap ∧ va_F (mc_A G) st t
abbrev mc_rm (d nc ns : Nat) : Room := { frames := d, cells := nc, slots := ns, locals := 35 * d }
abbrev mc_ws (Mk : mc_M) : List Cond := [Cond.code Mk.1 Mk.2.1 Mk.2.2.1 Mk.2.2.2]
theorem mc_blind (G : mc_G) (vs : List Value) (h : mc_H) : FrameBlind (mc_Pc G vs h) := by
  intro a U g mk q
  obtain ⟨q1, q2, q3, q4⟩ := q
  exact ⟨q1, q2.warm (U := U.calling g mk a) (State.WarmedH.refl U), va_K.moved (u := U) (U := U.calling g mk a) (Vm.Alike.refl U.vm) q3, q4⟩
theorem mc_Met {Mk : mc_M} {d : Nat} {vs : List Value} {h : mc_H} {r : Option Value} {h' : mc_H} {nc ns : Nat} (k : mc_V Mk d none 0 (mc_entry vs Mk.2.2.1) [] h r h' nc ns) (hpl : plainName Mk.1.cls = true) (hvs : (mc_flat vs).length ≤ Mk.2.2.1) (l : Launch) (G : mc_G) :
    Met l Mk.1 (mc_ws Mk) (mc_rm d nc ns) (mc_Pc G vs h) (mc_Qc G r h') nc ns (mc_A G) := by
  refine Met.ofW (cc := Mk.2.1) (maxL := Mk.2.2.1) (ret := Mk.2.2.2) hpl rfl ?_
  intro p e s m args below meth c s₁ B hml hv
  obtain ⟨rfl, hWd, hK, hP⟩ := hv
  rw [lg_entry_eq]
  have hS : mc_S G s s.heap [] := ⟨va_S.rf, by rw [hP.2]; omega⟩
  have hlocks := B.notSynchronized
  refine k p l e (mc_rm d nc ns) s m _ below meth c s.heap [] 0 0 _ _ G ⟨B.exec, B.bytes, hml, B.returns, hlocks, findClass_of_methodNamed B.named, hWd, fun hn => (name_of_methodNamed B.named B.method).1.trans hn⟩ hK trivial hP hS (mc_LO.entry hvs) ⟨Nat.le_refl _, Nat.le_refl _, by show 0 + nc ≤ nc; omega, by show 0 + ns ≤ ns; omega⟩ ?_
  intro H' locs' pc' ls' P' S' hr
  rw [Nat.zero_add, Nat.zero_add]
  match r, hr with
  | none, hr => exact W.vret B.exec B.bytes (B.returns.trans hr.1) (fun t ht hW => ⟨rfl, by rw [ht]; exact P', S'.1.F ht⟩) S'.1.2.2 hr.2
  | some (.int v), hr =>
    obtain ⟨ty, h1, h2, h3⟩ := hr
    exact W.zret (v := v) B.exec B.bytes (B.returns.trans h1) h2 (fun t ht hW => ⟨rfl, by rw [ht]; exact P', S'.1.F ht⟩) S'.1.2.2 h3
  | some (.long v), hr => exact W.lret (v := v) B.exec B.bytes (B.returns.trans hr.1) (fun t ht hW => ⟨rfl, by rw [ht]; exact P', S'.1.F ht⟩) S'.1.2.2 hr.2
  | some (.float _), hr => exact absurd hr id
  | some (.double _), hr => exact absurd hr id
  | some .null, hr => exact absurd hr id
  | some (.ref _), hr => exact absurd hr id
  | some (.retAddr _), hr => exact absurd hr id
/-! ===== THE ROWS THAT CALL ===== -/
section MC
variable {Mt : mc_M} {d : Nat} {scr : Option (Nat × (Nat → Int32))} {pc : Nat} {loc stk : List Value} {h : mc_H} {r : Option Value} {h' : mc_H} {nc ns : Nat}
/-- behind a call -/
theorem mc_back {Mk : mc_M} {vs : List Value} {rc : Option Value} {hc : mc_H} {nc1 ns1 nc2 ns2 : Nat} (k : mc_V Mt (d + 1) scr (pc + 3) loc (rc.toList ++ stk) hc r h' nc2 ns2)
    {p : Program} {l : Launch} {e : Env} {R : Room} {s : State} {m : MethodId} {args : Array Value} {below : List Frame} {meth : Method} {c : Code} {H : Heap} {locs : List Loc} {cells slots : Nat} {Q : State → Prop} {ls : Array Slot} {G : mc_G} {st0 : List Value}
    (C : mc_C Mt p s m meth c) (K : mc_K G s) (X : mc_X G s scr) (S : mc_S G s H locs) (L : mc_LO G ls Mt.2.2.1 loc) (hR : d + 1 ≤ R.frames ∧ 35 * (d + 1) ≤ R.locals ∧ cells + (nc1 + nc2) ≤ R.cells ∧ slots + (ns1 + ns2) ≤ R.slots)
    (E : ∀ (H' : Heap) (locs' : List Loc) (pc' : Nat) (ls' : Array Slot), mc_P G h' H' → mc_S G s H' locs' → mc_ret Mt pc' r → W p l e R s m args below meth c H' locs' (cells + (nc1 + nc2)) (slots + (ns1 + ns2)) Q (F0 m pc' ls' (r.toList.map (mc_cv G))))
    (a : Array Value) (hrun : va_Run p l e R s m args below meth c H locs cells slots nc1 ns1 (F0 m pc ls st0) (stk.map (mc_cv G)) (mc_Qc G rc hc a) (mc_A G)) : W p l e R s m args below meth c H locs cells slots Q (F0 m pc ls st0) := by
  intro T hT Xs
  obtain ⟨v, st₀, t, T', L1, h0, X', hL, e1, e2, hq, st⟩ := hrun T hT Xs
  obtain ⟨hv, hP1, hF⟩ := hq
  cases hv
  have hS' : mc_S G s T'.heap (locs ++ L1) := by
    refine ⟨⟨?_, fun q g1 g2 => ?_, fun q hq => ?_⟩, S.2⟩
    · rw [e1]; have := S.1.1; have := hF.1; rw [h0] at this; omega
    · rw [e1, hF.2 q (by rw [h0]; exact Nat.lt_of_lt_of_le g1 S.1.1) g2, h0]; exact S.1.2.1 q g1 g2
    · rcases List.mem_append.mp hq with g | g
      · exact S.1.2.2 q g
      · exact hL q g
  obtain ⟨t2, a1, b1⟩ := k p l e R s m args below meth c T'.heap (locs ++ L1) (cells + nc1) (slots + ns1) Q ls G C K X (by rw [e1]; exact hP1) hS' L ⟨hR.1, hR.2.1, by have := hR.2.2.1; omega, by have := hR.2.2.2; omega⟩ (fun H' locs' pc' ls' P' S' hr => by rw [Nat.add_assoc, Nat.add_assoc]; exact E H' locs' pc' ls' P' S' hr) T' rfl X'
  refine ⟨t2, st t2 ?_, b1⟩
  have e9 : (rc.toList ++ stk).map (mc_cv G) = (rc.map (mc_cv G)).toList ++ stk.map (mc_cv G) := by
    rw [List.map_append]
    cases rc <;> rfl
  rw [e9] at a1
  exact a1
theorem mc_np {y : MethodName} {n : Nat} (h : (parseMethodDescriptor y.desc).map (fun d => d.parameters.length) = some n) : ∀ sig, parseMethodDescriptor y.desc = some sig → n = sig.parameters.length := by
  intro sig hs
  rw [hs] at h
  exact (Option.some.inj h).symm
/-- the facts of a callee that its caller needs: y.cls, number of parameters -/
def mc_ok (Mk : mc_M) (n : Nat) : Prop := plainName Mk.1.cls = true ∧ (Mk.1.cls ≠ "java/lang/invoke/MethodHandle" ∧ Mk.1.cls ≠ "java/lang/invoke/VarHandle") ∧ (parseMethodDescriptor Mk.1.desc).map (fun d => d.parameters.length) = some n ∧ Mk.2.2.1 ≤ 16 ∧ Cond.code Mk.1 Mk.2.1 Mk.2.2.1 Mk.2.2.2 ∈ mc_tbl ∧ Cond.initialized Mk.1.cls ∈ mc_tbl
theorem mc_callB {Mk : mc_M} {n idx d nc1 ns1 : Nat} {R : Room} {s : State} {args : Array Value} {own : String} (hk : mc_ok Mk n) (hW : mc_Wd s) (hw : Cond.methodLink own idx Mk.1 ∈ mc_tbl) (h1 : d + 1 ≤ R.frames) (h2 : 35 * (d + 1) ≤ R.locals) : CallB R s args own idx Mk.1 Mk.2.1 Mk.2.2.1 Mk.2.2.2 (mc_ws Mk) (mc_rm d nc1 ns1) nc1 ns1 n := by
  obtain ⟨-, k2, k3, k4, k5, k6⟩ := hk
  refine ⟨rfl, rfl, h1, by show 8 + (Mk.2.2.1 + 11) + 35 * d ≤ _; omega, fun w hw a' U hU => ?_, List.mem_cons_self, hW _ _ k5, hW _ _ k6, k2, mc_np k3, hW _ _ hw⟩
  have : w = Cond.code Mk.1 Mk.2.1 Mk.2.2.1 Mk.2.2.2 := by simpa using hw
  subst this
  exact hW.warm hU _ _ k5
theorem mc_callN {Mk : mc_M} {n idx d nc1 ns1 : Nat} {R : Room} {s : State} {args : Array Value} {own host : String} (hk : mc_ok Mk n) (hW : mc_Wd s) (hw : Cond.methodLinkNest own idx Mk.1 host ∈ mc_tbl) (h1 : d + 1 ≤ R.frames) (h2 : 35 * (d + 1) ≤ R.locals) : va_CN R s args own idx Mk.1 host Mk.2.1 Mk.2.2.1 Mk.2.2.2 (mc_ws Mk) (mc_rm d nc1 ns1) nc1 ns1 n := by
  obtain ⟨-, k2, k3, k4, k5, k6⟩ := hk
  refine ⟨⟨rfl, rfl, h1, by show 8 + (Mk.2.2.1 + 11) + 35 * d ≤ _; omega, fun w hw a' U hU => ?_, List.mem_cons_self⟩, hW _ _ k5, hW _ _ k6, k2, mc_np k3, hW _ _ hw⟩
  have : w = Cond.code Mk.1 Mk.2.1 Mk.2.2.1 Mk.2.2.2 := by simpa using hw
  subst this
  exact hW.warm hU _ _ k5
theorem mc_roomW {G : mc_G} {st : List Value} (h : (st.map fun v => v.category).sum ≤ 8) : ((st.map (mc_cv G)).map fun v => v.category).sum ≤ 8 := by
  rw [List.map_map]
  have : ((fun v => v.category) ∘ mc_cv G) = fun v => v.category := funext fun v => mc_cat G v
  rw [this]
  exact h
theorem mc_preS {G : mc_G} {vs : List Value} {s : State} {H : Heap} (C : mc_Wd s) (K : mc_K G s) (P : mc_P G h H) : PreS s H (mc_Pc G vs h) (vs.map (mc_cv G)) :=
  ⟨mc_blind G vs h, fun U hU hW => ⟨rfl, C.warm hW, va_K.moved hW.alike K, by rw [hU]; exact P⟩⟩
theorem mr_callS {Mk : mc_M} {idx n : Nat} {stk0 : List Value} {rc : Option Value} {hc : mc_H} {nc1 ns1 nc2 ns2 : Nat} (vs : List Value) (hok : mc_ok Mk n) (hw : Cond.methodLink Mt.1.cls idx Mk.1 ∈ mc_tbl) (hst : Cond.static Mk.1 ∈ mc_tbl) (hd : decode Mt.2.1 pc = .ok (.invokestatic idx, 3)) (hs : stk0 = vs.reverse ++ stk) (hn : vs.length = n) (hvs : (mc_flat vs).length ≤ Mk.2.2.1) (hm : (stk.map fun v => v.category).sum ≤ 8)
    (kc : mc_V Mk d none 0 (mc_entry vs Mk.2.2.1) [] h rc hc nc1 ns1) (k : mc_V Mt (d + 1) scr (pc + 3) loc (rc.toList ++ stk) hc r h' nc2 ns2) : mc_V Mt (d + 1) scr pc loc stk0 h r h' (nc1 + nc2) (ns1 + ns2) := by
  intro p l e R s m args below meth c H locs cells slots Q ls G C K X P S L hR E
  have hM := mc_Met kc hok.1 hvs l G
  refine mc_back (Mk := Mk) (vs := vs) k C K X S L hR E _ (va_runS (Ts := mc_tbl) ⟨C.1, C.2.1, C.2.2.1, C.2.2.2.2.2.1, fun w h => C.2.2.2.2.2.2.1 _ w h⟩ hM ⟨mc_callB hok C.2.2.2.2.2.2.1 hw hR.1 hR.2.1, C.2.2.2.2.2.2.1 _ _ hst⟩ (mc_preS C.2.2.2.2.2.2.1 K P) rfl (by rw [List.length_map]; exact hn) L.1.1 (by rw [hs, List.map_append, List.map_reverse]) (lv_room (mc_roomW hm)) hd ⟨by have := hR.2.2.1; omega, by have := hR.2.2.2; omega⟩)
theorem mr_callSN {Mk : mc_M} {idx n : Nat} {stk0 : List Value} {rc : Option Value} {hc : mc_H} {nc1 ns1 nc2 ns2 : Nat} {host : String} (vs : List Value) (hok : mc_ok Mk n) (hw : Cond.methodLinkNest Mt.1.cls idx Mk.1 host ∈ mc_tbl) (hst : Cond.static Mk.1 ∈ mc_tbl) (hd : decode Mt.2.1 pc = .ok (.invokestatic idx, 3)) (hs : stk0 = vs.reverse ++ stk) (hn : vs.length = n) (hvs : (mc_flat vs).length ≤ Mk.2.2.1) (hm : (stk.map fun v => v.category).sum ≤ 8)
    (kc : mc_V Mk d none 0 (mc_entry vs Mk.2.2.1) [] h rc hc nc1 ns1) (k : mc_V Mt (d + 1) scr (pc + 3) loc (rc.toList ++ stk) hc r h' nc2 ns2) : mc_V Mt (d + 1) scr pc loc stk0 h r h' (nc1 + nc2) (ns1 + ns2) := by
  intro p l e R s m args below meth c H locs cells slots Q ls G C K X P S L hR E
  have hM := mc_Met kc hok.1 hvs l G
  refine mc_back (Mk := Mk) (vs := vs) k C K X S L hR E _ (va_runSN (Ts := mc_tbl) ⟨C.1, C.2.1, C.2.2.1, C.2.2.2.2.2.1, fun w h => C.2.2.2.2.2.2.1 _ w h⟩ hM ⟨mc_callN hok C.2.2.2.2.2.2.1 hw hR.1 hR.2.1, C.2.2.2.2.2.2.1 _ _ hst, trivial⟩ (mc_preS C.2.2.2.2.2.2.1 K P) rfl (by rw [List.length_map]; exact hn) L.1.1 (by rw [hs, List.map_append, List.map_reverse]) (lv_room (mc_roomW hm)) hd ⟨by have := hR.2.2.1; omega, by have := hR.2.2.2; omega⟩)
theorem mr_callV {Mk : mc_M} {a ci idx n : Nat} {C0 : String} {T : u_T} {N : Nat} {fs : List Value} {stk0 : List Value} {rc : Option Value} {hc : mc_H} {nc1 ns1 nc2 ns2 : Nat} (vs : List Value) (hok : mc_ok Mk n) (hw : Cond.methodLink Mt.1.cls idx Mk.1 ∈ mc_tbl) (hst : Cond.instanceMethod Mk.1 ∈ mc_tbl) (hse : Cond.selects C0 Mk.1 Mk.1 ∈ mc_tbl) (hd : decode Mt.2.1 pc = .ok (.invokevirtual idx, 3)) (hcl : mc_cl[ci]? = some (C0, T, N)) (ha : h[a]? = some (.inl (ci, fs))) (hs : stk0 = vs.reverse ++ .ref (a + 1) :: stk) (hn : vs.length = n) (hvs : (mc_flat (.ref (a + 1) :: vs)).length ≤ Mk.2.2.1) (hm : (stk.map fun v => v.category).sum ≤ 8)
    (kc : mc_V Mk d none 0 (mc_entry (.ref (a + 1) :: vs) Mk.2.2.1) [] h rc hc nc1 ns1) (k : mc_V Mt (d + 1) scr (pc + 3) loc (rc.toList ++ stk) hc r h' nc2 ns2) : mc_V Mt (d + 1) scr pc loc stk0 h r h' (nc1 + nc2) (ns1 + ns2) := by
  intro p l e R s m args below meth c H locs cells slots Q ls G C K X P S L hR E
  have hM := mc_Met kc hok.1 hvs l G
  refine mc_back (Mk := Mk) (vs := .ref (a + 1) :: vs) k C K X S L hR E _ (va_runV (Ts := mc_tbl) (b := mc_ad G (a + 1)) (As := vs.map (mc_cv G)) ⟨C.1, C.2.1, C.2.2.1, C.2.2.2.2.2.1, fun w h => C.2.2.2.2.2.2.1 _ w h⟩ hM ⟨mc_callB hok C.2.2.2.2.2.2.1 hw hR.1 hR.2.1, C.2.2.2.2.2.2.1 _ _ hst, C.2.2.2.2.2.2.1 _ _ hse⟩ ⟨mc_blind G _ h, va_recv K P.1 hcl (mc_W_get ha), (mc_preS (vs := .ref (a + 1) :: vs) C.2.2.2.2.2.2.1 K P).2⟩ rfl (by rw [List.length_map]; exact hn) L.1.1 (by rw [hs, List.map_append, List.map_reverse]; rfl) (lv_room (mc_roomW hm)) hd ⟨by have := hR.2.2.1; omega, by have := hR.2.2.2; omega⟩)
theorem mr_callI {Mk : mc_M} {a idx n : Nat} {stk0 : List Value} {rc : Option Value} {hc : mc_H} {nc1 ns1 nc2 ns2 : Nat} (vs : List Value) (hok : mc_ok Mk n) (hnm : Mk.1.name = "<init>") (hvd : Mk.2.2.2 = none) (hw : Cond.methodLink Mt.1.cls idx Mk.1 ∈ mc_tbl) (hst : Cond.instanceMethod Mk.1 ∈ mc_tbl) (hd : decode Mt.2.1 pc = .ok (.invokespecial idx, 3)) (hs : stk0 = vs.reverse ++ .ref (a + 1) :: stk) (hn : vs.length = n) (hvs : (mc_flat (.ref (a + 1) :: vs)).length ≤ Mk.2.2.1) (hm : (stk.map fun v => v.category).sum ≤ 8)
    (kc : mc_V Mk d none 0 (mc_entry (.ref (a + 1) :: vs) Mk.2.2.1) [] h rc hc nc1 ns1) (k : mc_V Mt (d + 1) scr (pc + 3) loc (rc.toList ++ stk) hc r h' nc2 ns2) : mc_V Mt (d + 1) scr pc loc stk0 h r h' (nc1 + nc2) (ns1 + ns2) := by
  intro p l e R s m args below meth c H locs cells slots Q ls G C K X P S L hR E
  have hM := mc_Met kc hok.1 hvs l G
  refine mc_back (Mk := Mk) (vs := .ref (a + 1) :: vs) k C K X S L hR E _ (va_runI (Ts := mc_tbl) (b := mc_ad G (a + 1)) (As := vs.map (mc_cv G)) ⟨C.1, C.2.1, C.2.2.1, C.2.2.2.2.2.1, fun w h => C.2.2.2.2.2.2.1 _ w h⟩ hM ⟨hvd ▸ mc_callB hok C.2.2.2.2.2.2.1 hw hR.1 hR.2.1, hnm, C.2.2.2.2.2.2.1 _ _ hst⟩ (mc_preS (vs := .ref (a + 1) :: vs) C.2.2.2.2.2.2.1 K P) rfl (by rw [List.length_map]; exact hn) L.1.1 (by rw [hs, List.map_append, List.map_reverse]; rfl) (lv_room (mc_roomW hm)) hd ⟨by have := hR.2.2.1; omega, by have := hR.2.2.2; omega⟩)
theorem mr_callIN {Mk : mc_M} {a idx n : Nat} {stk0 : List Value} {rc : Option Value} {hc : mc_H} {nc1 ns1 nc2 ns2 : Nat} {host : String} (vs : List Value) (hok : mc_ok Mk n) (hnm : Mk.1.name = "<init>") (hvd : Mk.2.2.2 = none) (hw : Cond.methodLinkNest Mt.1.cls idx Mk.1 host ∈ mc_tbl) (hst : Cond.instanceMethod Mk.1 ∈ mc_tbl) (hd : decode Mt.2.1 pc = .ok (.invokespecial idx, 3)) (hs : stk0 = vs.reverse ++ .ref (a + 1) :: stk) (hn : vs.length = n) (hvs : (mc_flat (.ref (a + 1) :: vs)).length ≤ Mk.2.2.1) (hm : (stk.map fun v => v.category).sum ≤ 8)
    (kc : mc_V Mk d none 0 (mc_entry (.ref (a + 1) :: vs) Mk.2.2.1) [] h rc hc nc1 ns1) (k : mc_V Mt (d + 1) scr (pc + 3) loc (rc.toList ++ stk) hc r h' nc2 ns2) : mc_V Mt (d + 1) scr pc loc stk0 h r h' (nc1 + nc2) (ns1 + ns2) := by
  intro p l e R s m args below meth c H locs cells slots Q ls G C K X P S L hR E
  have hM := mc_Met kc hok.1 hvs l G
  refine mc_back (Mk := Mk) (vs := .ref (a + 1) :: vs) k C K X S L hR E _ (va_runIN (Ts := mc_tbl) (b := mc_ad G (a + 1)) (As := vs.map (mc_cv G)) ⟨C.1, C.2.1, C.2.2.1, C.2.2.2.2.2.1, fun w h => C.2.2.2.2.2.2.1 _ w h⟩ hM ⟨hvd ▸ mc_callN hok C.2.2.2.2.2.2.1 hw hR.1 hR.2.1, hnm, C.2.2.2.2.2.2.1 _ _ hst⟩ (mc_preS (vs := .ref (a + 1) :: vs) C.2.2.2.2.2.2.1 K P) rfl (by rw [List.length_map]; exact hn) L.1.1 (by rw [hs, List.map_append, List.map_reverse]; rfl) (lv_room (mc_roomW hm)) hd ⟨by have := hR.2.2.1; omega, by have := hR.2.2.2; omega⟩)
/-! returns -/
theorem mr_ret (hr : Mt.2.2.2 = none) (hd : decode Mt.2.1 pc = .ok (.return_, 1)) : mc_V Mt d scr pc loc [] h none h 0 0 := by
  intro p l e R s m args below meth c H locs cells slots Q ls G C K X P S L hR E
  exact E H locs pc ls P S ⟨hr, hd⟩
theorem mr_iret {ty : FieldType} {v : Int32} (hr : Mt.2.2.2 = some ty) (hn : narrow ty (.int v) = .int v) (hd : decode Mt.2.1 pc = .ok (.ireturn, 1)) : mc_V Mt d scr pc loc [.int v] h (some (.int v)) h 0 0 := by
  intro p l e R s m args below meth c H locs cells slots Q ls G C K X P S L hR E
  exact E H locs pc ls P S ⟨ty, hr, hn, hd⟩
theorem mr_lret {v : Int64} (hr : Mt.2.2.2 = some .long) (hd : decode Mt.2.1 pc = .ok (.lreturn, 1)) : mc_V Mt d scr pc loc [.long v] h (some (.long v)) h 0 0 := by
  intro p l e R s m args below meth c H locs cells slots Q ls G C K X P S L hR E
  exact E H locs pc ls P S ⟨hr, hd⟩
/-! Object's own start -/
theorem mr_objInit {a idx : Nat} (hw : Cond.methodLink Mt.1.cls idx Lib.objectInit ∈ mc_tbl) (hi : Cond.instanceMethod Lib.objectInit ∈ mc_tbl) (hcd : Cond.code Lib.objectInit ⟨#[0xb1]⟩ 1 none ∈ mc_tbl) (hd : decode Mt.2.1 pc = .ok (.invokespecial idx, 3)) (hm : (stk.map fun v => v.category).sum ≤ 8)
    (k : mc_V Mt (d + 1) scr (pc + 3) loc stk h r h' nc ns) : mc_V Mt (d + 1) scr pc loc (.ref a :: stk) h r h' nc ns := by
  intro p l e R s m args below meth c H locs cells slots Q ls G C K X P S L hR E
  have hrm := mc_roomW (G := G) hm
  refine W.objInit C.1 C.2.1 C.2.2.2.2.2.1 (C.2.2.2.2.2.2.1 _ _ hw) (C.2.2.2.2.2.2.1 _ _ hi) (C.2.2.2.2.2.2.1 _ _ hcd) rfl (L.1.1.trans C.2.2.1.symm) rfl hd (by have := hR.1; omega) (by show 2 * 0 + _ + 12 ≤ _; have := hR.2.1; omega) ?_
  exact k p l e R s m args below meth c H locs cells slots Q ls G C K X P S L hR E
end MC
end
section
/-! ===== THE ROWS THAT MAKE CELLS, AND arraycopy ===== -/
section MK
variable {Mt : mc_M} {d : Nat} {scr : Option (Nat × (Nat → Int32))} {pc : Nat} {loc stk : List Value} {h : mc_H} {r : Option Value} {h' : mc_H} {nc ns : Nat}
theorem mc_W_app {G : mc_G} (h : mc_H) (x : mc_Cell) : mc_W G (h ++ [x]) = mc_W G h ++ [(mc_ad G (h.length + 1), mc_E G x)] := by
  unfold mc_W
  rw [List.mapIdx_append]
  simp
theorem mc_P.push {G : mc_G} {h : mc_H} {H H1 : Heap} {x : mc_Cell} (P : mc_P G h H) (z : H1.size = H.size + 1) (oq : ∀ q, q < H.size → H1[q]? = H[q]?) (he : va_at G.1 mc_cl (mc_ad G (h.length + 1), mc_E G x) H1) : mc_P G (h ++ [x]) H1 := by
  refine ⟨?_, by rw [z, P.2, List.length_append]; rfl⟩
  rw [mc_W_app]
  refine va_P.app (P.1.kept fun k q hq => oq q.1 ((P.1 k q hq).lt)) (fun k q hq => ?_)
  have hz : k < 1 := (List.getElem?_eq_some_iff.mp hq).1
  rw [show k = 0 by omega] at hq
  cases hq
  exact he
theorem mc_S.push {G : mc_G} {s : State} {H H1 : Heap} {locs : List Loc} (S : mc_S G s H locs) (z : H.size ≤ H1.size) (oq : ∀ q, q < H.size → H1[q]? = H[q]?) : mc_S G s H1 locs :=
  ⟨⟨Nat.le_trans S.1.1 z, fun q g1 g2 => (oq q (Nat.lt_of_lt_of_le g1 S.1.1)).trans (S.1.2.1 q g1 g2), S.1.2.2⟩, S.2⟩
theorem mr_new {ci : Nat} {C0 : String} {T : u_T} {N idx : Nat} (fs : List Value) (hin : ∀ w ∈ u_ws C0 T N, w ∈ mc_tbl) (ty : Nat → FieldType) (hty : ∀ k, k < N → parseFieldDescriptor (T k).2.2.1 = some (ty k)) (hc : mc_cl[ci]? = some (C0, T, N)) (hw : Cond.classLink Mt.1.cls idx C0 ∈ mc_tbl) (hi : Cond.instantiable C0 N ∈ mc_tbl) (hini : Cond.initialized C0 ∈ mc_tbl) (hfs : ∀ (G : mc_G) (j : Nat), j < N → defaultValue (ty j) = vp_V (fs.map (mc_cv G)) j) (hd : decode Mt.2.1 pc = .ok (.new idx, 3)) (b : Nat) (hb : b = h.length + 1)
    (k : mc_V Mt d scr (pc + 3) loc (.ref b :: stk) (h ++ [.inl (ci, fs)]) r h' nc ns) : mc_V Mt d scr pc loc stk h r h' (1 + nc) (N + ns) := by
  intro p l e R s m args below meth c H locs cells slots Q ls G C K X P S L hR E
  subst hb
  have hts : ∀ w ∈ mc_tbl, w.before args s = true := fun w h => C.2.2.2.2.2.2.1 _ w h
  have hKn := K.1 ci _ hc
  refine W.newcK C.1 C.2.1 C.2.2.2.2.2.1 (hts _ hw) (hts _ hi) (hts _ hini) rfl hd (by have := hR.2.2.1; omega) (by have := hR.2.2.2; omega) hKn.2.1 rfl fun H1 kC hkC e1 z1 o1 => ?_
  have ea : mc_ad G (h.length + 1) = H.size := P.2.symm
  have := k p l e R s m args below meth c H1 locs (cells + 1) (slots + N) Q ls G C K X (P.push z1 o1 ⟨_, hc, by rw [ea]; exact (u_born ty hts hin hKn hkC e1 hty).to (hfs G)⟩) (S.push (by omega) o1) L ⟨hR.1, hR.2.1, by have := hR.2.2.1; omega, by have := hR.2.2.2; omega⟩ (fun H' locs' pc' ls' P' S' hr => by rw [Nat.add_assoc, Nat.add_assoc]; exact E H' locs' pc' ls' P' S' hr)
  rw [List.map_cons, show mc_cv G (.ref (h.length + 1)) = .ref H.size from congrArg Value.ref ea] at this
  exact this
theorem mc_arr {G : mc_G} {s : State} (K : mc_K G s) (j : Nat) {ty : FieldType} (hj : (mc_tys G)[j]? = some (G.2.1 ty, ty)) (hno : ∀ C, ty ≠ .object C) {cA : ClassId} (hf : s.vm.findClass ("[" ++ ty.toString) = some cA) : cA = G.2.1 ty := by
  have h1 := (K.2 j _ hj).2
  have h2 : s.vm.findClass ("[" ++ ty.toString) = some (G.2.1 ty) := by
    cases ty <;> first | exact h1 | exact absurd rfl (hno _)
  exact Option.some.inj (hf.symm.trans h2)
theorem mr_newI {ty : FieldType} {atype : ArrayType} (j : Nat) (x : mc_Cell) {n : Int32} {N : Nat} (hty : newarray.typeOf atype = ty) (hj : ∀ G : mc_G, (mc_tys G)[j]? = some (G.2.1 ty, ty)) (hno : ∀ C, ty ≠ .object C) (hx : ∀ (G : mc_G), ∃ a0 : vp_A, mc_E G x = .inl (G.2.1 ty, a0) ∧ vp_cell (G.2.1 ty) a0 = arrV (G.2.1 ty) N (fun _ => defaultValue ty)) (hw : Cond.arrayClass ty ∈ mc_tbl) (hd : decode Mt.2.1 pc = .ok (.newarray atype, 2)) (hn : ¬ n < 0) (hN : n.toNatClampNeg = N) (hbytes : N * componentBytes ty ≤ 536870912) (b : Nat) (hb : b = h.length + 1)
    (k : mc_V Mt d scr (pc + 2) loc (.ref b :: stk) (h ++ [x]) r h' nc ns) : mc_V Mt d scr pc loc (.int n :: stk) h r h' (1 + nc) (N + ns) := by
  intro p l e R s m args below meth c H locs cells slots Q ls G C K X P S L hR E
  subst hb
  subst hty
  have hts : ∀ w ∈ mc_tbl, w.before args s = true := fun w h => C.2.2.2.2.2.2.1 _ w h
  refine va_newaK C.1 C.2.1 (hts _ hw) rfl hd rfl hn hN hbytes (by have := hR.2.2.1; omega) (by have := hR.2.2.2; omega) rfl fun H1 cA e1 z1 o1 _ hNm => ?_
  have hcA := mc_arr K j (hj G) hno hNm
  subst hcA
  obtain ⟨a0, g1, g2⟩ := hx G
  have ea : mc_ad G (h.length + 1) = H.size := P.2.symm
  have := k p l e R s m args below meth c H1 locs (cells + 1) (slots + N) Q ls G C K X (P.push z1 o1 (by rw [g1, ea]; show H1[H.size]? = some (vp_cell _ _); rw [g2]; exact e1)) (S.push (by omega) o1) L ⟨hR.1, hR.2.1, by have := hR.2.2.1; omega, by have := hR.2.2.2; omega⟩ (fun H' locs' pc' ls' P' S' hr => by rw [Nat.add_assoc, Nat.add_assoc]; exact E H' locs' pc' ls' P' S' hr)
  rw [List.map_cons, show mc_cv G (.ref (h.length + 1)) = .ref H.size from congrArg Value.ref ea] at this
  exact this
theorem mr_copy {a0 a1 n0 n1 idx : Nat} {f g : Nat → Int32} {sp dp n : Int32} (hw : Cond.methodLink Mt.1.cls idx arraycopyName ∈ mc_tbl) (hnat : Cond.native arraycopyName ∈ mc_tbl) (hstat : Cond.static arraycopyName ∈ mc_tbl) (hini : Cond.initialized "java/lang/System" ∈ mc_tbl) (hd : decode Mt.2.1 pc = .ok (.invokestatic idx, 3)) (ha0 : h[a0]? = some (.inr (.inl (.int, n0, f)))) (ha1 : h[a1]? = some (.inr (.inl (.int, n1, g)))) (h1 : ¬ sp < 0) (h2 : ¬ dp < 0) (h3 : ¬ n < 0) (h4 : sp.toNatClampNeg + n.toNatClampNeg ≤ n0) (h5 : dp.toNatClampNeg + n.toNatClampNeg ≤ n1) (hm : (stk.map fun v => v.category).sum ≤ 8)
    (k : mc_V Mt (d + 1) scr (pc + 3) loc stk (h.set a1 (.inr (.inl (.int, n1, va_cpy f g sp.toNatClampNeg dp.toNatClampNeg n.toNatClampNeg)))) r h' nc ns) : mc_V Mt (d + 1) scr pc loc (.int n :: .int dp :: .ref (a1 + 1) :: .int sp :: .ref (a0 + 1) :: stk) h r h' nc ns := by
  intro p l e R s m args below meth c H locs cells slots Q ls G C K X P S L hR E
  have hts : ∀ w ∈ mc_tbl, w.before args s = true := fun w h => C.2.2.2.2.2.2.1 _ w h
  have hrm := mc_roomW (G := G) hm
  have nn : ∀ z : Int32, ¬ z < 0 → z.toInt = (z.toNatClampNeg : Int) := by
    intro z hz
    have hz0 : (0 : Int) ≤ z.toInt := by
      have := Int32.not_lt.mp hz
      simpa using Int32.le_iff_toInt_le.mp this
    show z.toInt = ((z.toInt.toNat : Nat) : Int)
    omega
  intro T hT X1
  have hc0 : H[mc_ad G (a0 + 1)]? = some (vp_cell (G.2.1 .int) (n0, .inl f)) := P.1 a0 _ (mc_W_get ha0)
  have hc1 : H[mc_ad G (a1 + 1)]? = some (vp_cell (G.2.1 .int) (n1, .inl g)) := P.1 a1 _ (mc_W_get ha1)
  obtain ⟨-, k0, hk0, cm0, hkk0⟩ := (K.2 0 _ rfl).1 n0 (fun j => .int (f j))
  obtain ⟨-, k1, hk1, cm1, hkk1⟩ := (K.2 0 _ rfl).1 n1 (fun j => .int (g j))
  obtain ⟨vm', X', step⟩ := X1.arraycopy C.1 C.2.2.2.2.2.1 (hts _ hw) (hts _ hnat) (hts _ hstat) (hts _ hini) (src := mc_ad G (a0 + 1)) (dst := mc_ad G (a1 + 1)) (cs := vp_cell (G.2.1 .int) (n0, .inl f)) (cd := vp_cell (G.2.1 .int) (n1, .inl g)) (srcPos := sp) (destPos := dp) (n := n) (by rw [hT]; exact hc0) (by rw [hT]; exact hc1)
    (fun _ h => by cases h) (fun _ h => by cases h) (fun h => by cases h) (fun h => by cases h) hk0 hk1 hkk0 hkk1 (by simp [show refKind .int = false from rfl]) h1 h2 h3
    (by rw [nn sp h1, nn n h3]; show ¬ _ > ((arrV (G.2.1 .int) n0 (fun j => .int (f j))).slots.size : Int); rw [arrV_size]; omega)
    (by rw [nn dp h2, nn n h3]; show ¬ _ > ((arrV (G.2.1 .int) n1 (fun j => .int (g j))).slots.size : Int); rw [arrV_size]; omega)
    (fun vm₁ _ i hi => by
      have e : (vp_cell (G.2.1 .int) (n0, .inl f)).slots.getD (sp.toNatClampNeg + i) .null = .int (f (sp.toNatClampNeg + i)) := by
        show (arrV (G.2.1 .int) n0 (fun j => .int (f j))).slots.getD _ _ = _
        rw [Array.getD_eq_getD_getElem?, arrV_read _ _ (by omega)]
        rfl
      refine ⟨?_, ?_⟩
      · rw [e]
        rfl
      · rw [e]
        exact trivial)
    (g := F0 m pc ls (.int n :: .int dp :: .ref (mc_ad G (a1 + 1)) :: .int sp :: .ref (mc_ad G (a0 + 1)) :: stk.map (mc_cv G))) rfl (L.1.1.trans C.2.2.1.symm) (rest := stk.map (mc_cv G)) rfl (by rw [C.2.1]; exact hd) (by have := hR.1; omega) (by show 2 * 0 + _ + (7 + 11) ≤ _; have := hR.2.1; omega)
  have e1 : copied (vp_cell (G.2.1 .int) (n0, .inl f)) (vp_cell (G.2.1 .int) (n1, .inl g)) sp dp n = vp_cell (G.2.1 .int) (n1, .inl (va_cpy f g sp.toNatClampNeg dp.toNatClampNeg n.toNatClampNeg)) := va_copied (fun z => .int z) (G.2.1 .int) (G.2.1 .int) f g h4
  rw [e1] at X' step
  have hl : mc_ad G (a1 + 1) < H.size := (Array.getElem?_eq_some_iff.mp hc1).1
  have hheap : ((T.setVm vm').setCell (mc_ad G (a1 + 1)) (vp_cell (G.2.1 .int) (n1, .inl (va_cpy f g sp.toNatClampNeg dp.toNatClampNeg n.toNatClampNeg)))).heap = H.setIfInBounds (mc_ad G (a1 + 1)) (vp_cell (G.2.1 .int) (n1, .inl (va_cpy f g sp.toNatClampNeg dp.toNatClampNeg n.toNatClampNeg))) := by rw [← hT]; rfl
  have oq : ∀ q : Nat, q ≠ mc_ad G (a1 + 1) → (H.setIfInBounds (mc_ad G (a1 + 1)) (vp_cell (G.2.1 .int) (n1, .inl (va_cpy f g sp.toNatClampNeg dp.toNatClampNeg n.toNatClampNeg))))[q]? = H[q]? := fun q hq => by simp [Array.getElem?_setIfInBounds, Ne.symm hq]
  obtain ⟨t, a2, b2⟩ := k p l e R s m args below meth c _ _ cells slots Q ls G C K X (P.put ha1 (show (H.setIfInBounds (mc_ad G (a1 + 1)) _)[mc_ad G (a1 + 1)]? = some _ by simp [Array.getElem?_setIfInBounds, hl]) (by simp) oq) ⟨⟨by simp; exact S.1.1, fun q g1 g2 => by
      rw [oq q (fun e => g2 (by rw [e]; exact (show G.2.2.2 ≤ G.2.2.2 + a1 by omega)))]
      exact S.1.2.1 q g1 g2, fun q hq => by
      rcases List.mem_append.mp hq with h | h
      · exact S.1.2.2 q h
      · obtain ⟨z, -, hz⟩ := List.mem_map.mp h
        rw [← hz]
        exact (show G.2.2.2 ≤ G.2.2.2 + a1 by omega)⟩, S.2⟩ L hR E _ hheap X'
  exact ⟨t, step t a2, b2⟩
end MK
end
section
/-! ===== new long[n][k]: the outer array, then its rows ===== -/
section MG
variable {Mt : mc_M} {d : Nat} {scr : Option (Nat × (Nat → Int32))} {pc : Nat} {loc stk : List Value} {h : mc_H} {r : Option Value} {h' : mc_H} {nc ns : Nat}
theorem mg_outer (c : ClassId) (N h0 : Nat) : ∀ i : Nat, Jvm.Free.Multi.outerC c N h0 i = arrV c N (fun j => va_rf (if j < i then some (h0 + 1 + j) else none))
  | 0 => by
    show ({ cls := c, slots := Array.replicate N .null, vm := .none } : Cell) = _
    rw [arrV_new]
    refine congrArg (arrV c N) (funext fun j => ?_)
    simp [va_rf]
  | i + 1 => by
    show (Jvm.Free.Multi.outerC c N h0 i).setSlot i (.ref (h0 + 1 + i)) = _
    rw [mg_outer c N h0 i, arrV_store]
    refine congrArg (arrV c N) (funext fun j => ?_)
    by_cases e : j = i
    · subst e
      simp [updV, va_rf]
    · by_cases h : j < i
      · simp [updV, e, h, Nat.lt_succ_of_lt h]
      · simp [updV, e, h, show ¬ j < i + 1 by omega]
theorem mc_W_appL {G : mc_G} (h x : mc_H) (k : Nat) : (mc_W G (h ++ x))[k]? = if k < h.length then (mc_W G h)[k]? else (x[k - h.length]?).map (fun c => (mc_ad G (k + 1), mc_E G c)) := by
  unfold mc_W
  rw [List.getElem?_mapIdx, List.getElem?_mapIdx]
  split
  · rename_i hk; rw [List.getElem?_append_left hk]
  · rename_i hk; rw [List.getElem?_append_right (by omega)]
theorem mr_mna {idx : Nat} {n k : Int32} {N K' : Nat} (hw : Cond.classLink Mt.1.cls idx ("[" ++ (FieldType.array .long).toString) ∈ mc_tbl) (hov : Cond.arrayOver (.array .long) ∈ mc_tbl) (hac : Cond.arrayClass .long ∈ mc_tbl) (hd : decode Mt.2.1 pc = .ok (.multianewarray idx 2, 4)) (hn : ¬ n < 0) (hk : ¬ k < 0) (hN : n.toNatClampNeg = N) (hK : k.toNatClampNeg = K') (hb1 : N * 4 ≤ 536870912) (hb2 : K' * componentBytes .long ≤ 536870912) (b : Nat) (hb : b = h.length + 1)
    (kk : mc_V Mt d scr (pc + 4) loc (.ref b :: stk) (h ++ (.inr (.inr (.inr (N, fun i => if i < N then some (b + 1 + i) else none))) :: List.replicate N (.inr (.inr (.inl (K', fun _ => 0)))))) r h' nc ns) : mc_V Mt d scr pc loc (.int k :: .int n :: stk) h r h' (1 + N + nc) (N + N * K' + ns) := by
  intro p l e R s m args below meth c H locs cells slots Q ls G C K X P S L hR E
  subst hb
  subst hN
  subst hK
  have hts : ∀ w ∈ mc_tbl, w.before args s = true := fun w h => C.2.2.2.2.2.2.1 _ w h
  intro T hT Xs
  obtain ⟨vm₁, cA, comp, -, fA, fC, hO, -, X', step⟩ := Xs.multianewarray2F C.1 C.2.2.2.2.2.1 (hts _ hw) (hts _ hov) (hts _ hac) (g := F0 m pc ls (.int k :: .int n :: stk.map (mc_cv G))) rfl (by rw [C.2.1]; exact hd) rfl hn hk hb1 hb2 (by have h8 : componentBytes .long = 8 := rfl; rw [h8] at hb2; omega) rfl rfl (by have := hR.2.2.1; omega) (by have := hR.2.2.2; omega)
  have ecA : cA = G.2.1 (.array .long) := mc_arr K 4 rfl (by simp) fA
  have ecp : comp = G.2.1 .long := mc_arr K 1 rfl (by simp) fC
  subst ecA
  subst ecp
  generalize hF : Jvm.Free.Multi.fill (T.setVm vm₁) (G.2.1 (.array .long)) (G.2.1 .long) n.toNatClampNeg k.toNatClampNeg (defaultValue .long) n.toNatClampNeg = F at X' step
  have hTh : (T.setVm vm₁).heap = H := hT
  obtain ⟨f1, f2, -, -⟩ := Jvm.Free.Multi.fill_facts (T.setVm vm₁) (G.2.1 (.array .long)) (G.2.1 .long) n.toNatClampNeg k.toNatClampNeg (defaultValue .long) n.toNatClampNeg
  rw [hF, hTh] at f1 f2
  have hold : ∀ x : Nat, x < H.size → F.heap[x]? = H[x]? := fun x hx => by
    have := Jvm.Free.Multi.fill_old (T.setVm vm₁) (G.2.1 (.array .long)) (G.2.1 .long) n.toNatClampNeg k.toNatClampNeg (defaultValue .long) (a := x) (by rw [hTh]; exact hx) n.toNatClampNeg
    rw [hF, hTh] at this
    exact this
  have hrow : ∀ j : Nat, j < n.toNatClampNeg → F.heap[H.size + 1 + j]? = some (vp_cell (G.2.1 .long) (k.toNatClampNeg, .inr (.inl (fun _ => 0)))) := fun j hj => by
    have := Jvm.Free.Multi.fill_inner (T.setVm vm₁) (G.2.1 (.array .long)) (G.2.1 .long) n.toNatClampNeg k.toNatClampNeg (defaultValue .long) n.toNatClampNeg j hj
    rw [hF, hTh] at this
    rw [this, vp_cell_l]
    exact congrArg some (arrV_new _ _ _)
  have ea : ∀ j, mc_ad G (h.length + 1 + j) = H.size + j := fun j => by
    rw [P.2]
    show mc_ad G (h.length + 1 + j) = _
    rw [show h.length + 1 + j = (h.length + j) + 1 by omega]
    show G.2.2.2 + (h.length + j) = _
    omega
  have P' : mc_P G (h ++ (.inr (.inr (.inr (n.toNatClampNeg, fun i => if i < n.toNatClampNeg then some (h.length + 1 + 1 + i) else none))) :: List.replicate n.toNatClampNeg (.inr (.inr (.inl (k.toNatClampNeg, fun _ => 0)))))) F.heap := by
    refine ⟨fun q x hx => ?_, by rw [f1, P.2, List.length_append, List.length_cons, List.length_replicate]; omega⟩
    rw [mc_W_appL] at hx
    split at hx
    · exact (P.1 q x hx).kept (hold _ ((P.1 q x hx).lt))
    · rename_i hq
      obtain ⟨j, rfl⟩ : ∃ j, q = h.length + j := ⟨q - h.length, by omega⟩
      rw [show h.length + j - h.length = j by omega] at hx
      match j, hx with
      | 0, hx =>
        cases hx
        show F.heap[mc_ad G (h.length + 1 + 0)]? = some (vp_cell _ _)
        rw [ea 0]
        show F.heap[H.size]? = _
        rw [f2, mg_outer, vp_cell_q]
        refine congrArg (fun z => some (arrV _ _ z)) (funext fun j => ?_)
        by_cases hj : j < n.toNatClampNeg
        · simp only [hj, if_true, Option.map_some]
          rw [show h.length + 1 + 1 + j = h.length + 1 + (1 + j) by omega, ea (1 + j)]
          rw [Nat.add_assoc]
        · simp [hj]
      | j + 1, hx =>
        have hj : j < n.toNatClampNeg := by
          have : (List.replicate n.toNatClampNeg (.inr (.inr (.inl (k.toNatClampNeg, fun _ => 0))) : mc_Cell))[j]? ≠ none := by
            intro h0
            rw [List.getElem?_cons_succ, h0] at hx
            cases hx
          by_cases hl : j < n.toNatClampNeg
          · exact hl
          · exact absurd (List.getElem?_eq_none (by rw [List.length_replicate]; omega)) this
        rw [List.getElem?_cons_succ, List.getElem?_replicate, if_pos hj] at hx
        cases hx
        show F.heap[mc_ad G (h.length + (j + 1) + 1)]? = some (vp_cell _ _)
        rw [show h.length + (j + 1) + 1 = h.length + 1 + (1 + j) by omega, ea (1 + j), ← Nat.add_assoc]
        exact hrow j hj
  obtain ⟨t, a1, b1⟩ := kk p l e R s m args below meth c F.heap locs (cells + 1 + n.toNatClampNeg) (slots + n.toNatClampNeg + n.toNatClampNeg * k.toNatClampNeg) Q ls G C K X P' (S.push (by rw [f1]; omega) hold) L ⟨hR.1, hR.2.1, by have := hR.2.2.1; omega, by have := hR.2.2.2; omega⟩
    (fun H' locs' pc' ls' P' S' hr => by
      have := E H' locs' pc' ls' P' S' hr
      rw [show cells + 1 + n.toNatClampNeg + nc = cells + (1 + n.toNatClampNeg + nc) by omega, show slots + n.toNatClampNeg + n.toNatClampNeg * k.toNatClampNeg + ns = slots + (n.toNatClampNeg + n.toNatClampNeg * k.toNatClampNeg + ns) by omega]
      exact this) F rfl X'
  refine ⟨t, step t ?_, b1⟩
  have e : T.heap.size = H.size := by rw [hT]
  rw [e]
  rw [List.map_cons, show mc_cv G (.ref (h.length + 1)) = .ref H.size from congrArg Value.ref (ea 0)] at a1
  exact a1
end MG
end
section
/-! ===== FROM THE LAW's RUN IN THE PICTURE TO THE CLAIM ===== -/
theorem mc_Wd.of {A : Array Value} {s : State} (h : ∀ w ∈ mc_tbl, w.before A s = true) : mc_Wd s := by
  intro a w hw
  have h1 := (List.mem_filter.mp hw).2
  have h2 := h w hw
  have hW : s.WarmedH s.vm := State.WarmedH.refl s
  rcases (Bool.or_eq_true _ _).mp h1 with g | g
  · exact word_at hW (good_of_word g) h2
  · cases w <;> first | (simp [mc_nest] at g; done) | skip
    · exact va_Nw.use rfl (va_Nw.warmM hW (va_Nw.of rfl h2))
    · exact va_Nw.use rfl (va_Nw.warmF hW (va_Nw.of rfl h2))
    · rename_i t
      cases t <;> first | (simp [mc_nest] at g; done) | exact over_moved hW.alike h2
theorem mc_prim {s : State} (h : mc_Wd s) {ty : FieldType} (hw : Cond.arrayClass ty ∈ mc_tbl) (hno : ∀ C, ty ≠ .object C) : ∃ cA, ArrOfT s cA ty ∧ va_RA s cA ty := by
  obtain ⟨c, k, comp, h1, h2, h3⟩ := Cond.arrayClass_spec (h #[] _ hw)
  refine ⟨c, fun n z => ⟨fun k h => (by cases h), k, h2, comp, h3⟩, ?_⟩
  cases ty <;> first | exact h1 | exact absurd rfl (hno _)
theorem mc_over {s : State} (h : mc_Wd s) (hw : Cond.arrayOver (.array .long) ∈ mc_tbl) : ∃ cA, ArrOfT s cA (.array .long) ∧ va_RA s cA (.array .long) := by
  obtain ⟨comp, c, k, hc, hi, hk, hkind, hn⟩ := arrayOverA_spec (h #[] _ hw)
  exact ⟨c, fun n z => ⟨fun k h => (by cases h), k, hk, comp, hkind⟩, hn⟩
theorem arr_boolean : Cond.arrayClass .boolean ∈ mc_tbl := mc_in 231 (by decide +kernel) (by decide +kernel)
theorem arr_int : Cond.arrayClass .int ∈ mc_tbl := mc_in 104 (by decide +kernel) (by decide +kernel)
theorem arr_long : Cond.arrayClass .long ∈ mc_tbl := mc_in 169 (by decide +kernel) (by decide +kernel)
theorem arr_short : Cond.arrayClass .short ∈ mc_tbl := mc_in 186 (by decide +kernel) (by decide +kernel)
theorem arr_over : Cond.arrayOver (.array .long) ∈ mc_tbl := mc_in 149 (by decide +kernel) (by decide +kernel)
def M_law : mc_M := (⟨RL, "law", "([I)Z"⟩, code, 4, some .boolean)
theorem mc_close {p : Program} {e : Env} {s : State} {m : MethodId} {below : List Frame} {meth : Method} {c : Code} (l : Launch) {b L : Nat} {xs : Nat → Int32} (hx : p.tables.exec = Jvm.exec) (hb : c.code = code) (hr : meth.sig.returnType = some .boolean) (hml : c.maxLocals = 4) (hown : s.vm.findClass "RestingBlocksLaw" = some m.cls) (hts : ∀ w ∈ lw_tbl, w.before #[Value.ref b] s = true) (hX : va_X b L xs s s.heap) (hbl : b < s.heap.size) (hlocks : meth.locks = false)
    {Q : State → Prop} {nc ns : Nat} {h' : mc_H} (hnc : nc ≤ 600000) (hns : ns ≤ 7302250) (hV : mc_V M_law 12 (some (L, xs)) 0 (mc_entry [.ref 0] 4) [] [] (some (.int 1)) h' nc ns)
    (hend : ∀ (H : Heap) (pc : Nat) (ls : Array Slot), decode code pc = .ok (.ireturn, 1) → W p l e room_1 s m #[Value.ref b] below meth c H [] 600000 7302250 Q (F0 m pc ls [.int 1])) :
    W p l e room_1 s m #[Value.ref b] below meth c s.heap [] 0 0 Q (entryFrame m ([Value.ref b] : List Value).toArray 4) := by
  have hWd : mc_Wd s := mc_Wd.of (A := #[Value.ref b]) fun w h => hts w (List.mem_filter.mp h).1
  have hts2 : ∀ w ∈ mc_tbl, w.before #[Value.ref b] s = true := fun w h => hWd _ w h
  obtain ⟨c0, iS0, hKn0⟩ := u_known (C := RX0) (T := TX0) (N := 6) (n := 6) hts2 inX0 (hts2 _ insX0)
  obtain ⟨c1, iS1, hKn1⟩ := u_known (C := RX1) (T := TX1) (N := 10) (n := 10) hts2 inX1 (hts2 _ insX1)
  obtain ⟨c2, iS2, hKn2⟩ := u_known (C := RX2) (T := TX2) (N := 1) (n := 1) hts2 inX2 (hts2 _ insX2)
  obtain ⟨c3, iS3, hKn3⟩ := u_known (C := RX3) (T := TX3) (N := 2) (n := 2) hts2 inX3 (hts2 _ insX3)
  obtain ⟨c4, iS4, hKn4⟩ := u_known (C := RX4) (T := TX4) (N := 3) (n := 3) hts2 inX4 (hts2 _ insX4)
  obtain ⟨c5, iS5, hKn5⟩ := u_known (C := RX5) (T := TX5) (N := 9) (n := 9) hts2 inX5 (hts2 _ insX5)
  obtain ⟨c6, iS6, hKn6⟩ := u_known (C := RX6) (T := TX6) (N := 27) (n := 27) hts2 inX6 (hts2 _ insX6)
  obtain ⟨dC, dI, hKc⟩ : ∃ (dC : Nat → ClassId) (dI : Nat → Nat → Nat), ∀ (k : Nat) (q : vw_C), mc_cl[k]? = some q → u_Kn s q.1 q.2.1 q.2.2 (dC k) (dI k) := by
    refine ⟨fun k => if k = 0 then c0 else (if k = 1 then c1 else (if k = 2 then c2 else (if k = 3 then c3 else (if k = 4 then c4 else (if k = 5 then c5 else (c6)))))), fun k => if k = 0 then iS0 else (if k = 1 then iS1 else (if k = 2 then iS2 else (if k = 3 then iS3 else (if k = 4 then iS4 else (if k = 5 then iS5 else (iS6)))))), ?_⟩
    intro k q hq
    match k, hq with
    | 0, hq => cases hq; exact hKn0
    | 1, hq => cases hq; exact hKn1
    | 2, hq => cases hq; exact hKn2
    | 3, hq => cases hq; exact hKn3
    | 4, hq => cases hq; exact hKn4
    | 5, hq => cases hq; exact hKn5
    | 6, hq => cases hq; exact hKn6
    | k + 7, hq => simp [mc_cl] at hq
  obtain ⟨cI, aI, rI⟩ := mc_prim hWd arr_int (by simp)
  obtain ⟨cJ, aJ, rJ⟩ := mc_prim hWd arr_long (by simp)
  obtain ⟨cS, aS, rS⟩ := mc_prim hWd arr_short (by simp)
  obtain ⟨cZ, aZ, rZ⟩ := mc_prim hWd arr_boolean (by simp)
  obtain ⟨cG, aG, rG⟩ := mc_over hWd arr_over
  let G : mc_G := ((dC, dI), (fun t => match t with
    | .int => cI
    | .long => cJ
    | .short => cS
    | .boolean => cZ
    | _ => cG), b, s.heap.size)
  have hK : mc_K G s := by
    refine ⟨hKc, fun k q hq => ?_⟩
    match k, hq with
    | 0, hq => cases hq; exact ⟨aI, rI⟩
    | 1, hq => cases hq; exact ⟨aJ, rJ⟩
    | 2, hq => cases hq; exact ⟨aS, rS⟩
    | 3, hq => cases hq; exact ⟨aZ, rZ⟩
    | 4, hq => cases hq; exact ⟨aG, rG⟩
    | k + 5, hq => simp [mc_tys] at hq
  have hP : mc_P G [] s.heap := ⟨fun k q h => by simp [mc_W] at h, rfl⟩
  have hS : mc_S G s s.heap [] := ⟨va_S.rf, Nat.le_refl _⟩
  rw [lg_entry_eq]
  refine hV p l e room_1 s m #[Value.ref b] below meth c s.heap [] 0 0 Q _ G ⟨hx, hb, hml, hr, hlocks, hown, hWd, fun h => absurd h (by decide)⟩ hK ⟨hX, hbl⟩ hP hS (mc_LO.entry (G := G) (vs := [.ref 0]) (n := 4) (by decide)) ⟨Nat.le_of_ble_eq_true rfl, Nat.le_of_ble_eq_true rfl, by show 0 + nc ≤ 600000; omega, by show 0 + ns ≤ 7302250; omega⟩ ?_
  intro H' locs' pc' ls' P' S' hret
  obtain ⟨ty, -, -, hd⟩ := hret
  refine va_forget (fun q hq => S'.1.2.2 q hq) ?_
  refine W.widen (k := 600000) (n := 7302250) (by omega) (by omega) ?_
  exact hend H' pc' ls' hd
end
section
abbrev M_X0_init : mc_M := (⟨RX0, "<init>", "()V"⟩, prog_2_method_1_code, 1, none)
abbrev M_X0_pose : mc_M := (⟨RX0, "pose", "(LRestingBlocks$Pile;LRestingBlocks$Layout;I)V"⟩, prog_2_method_2_code, 5, none)
abbrev M_X0_poseBlock : mc_M := (⟨RX0, "poseBlock", "(LRestingBlocks$Pile;LRestingBlocks$Layout;I)V"⟩, prog_2_method_3_code, 7, none)
abbrev M_X0_poseLoad : mc_M := (⟨RX0, "poseLoad", "(II)I"⟩, prog_2_method_4_code, 5, (some .int))
abbrev M_X0_solve : mc_M := (⟨RX0, "solve", "()Z"⟩, prog_2_method_5_code, 4, (some .boolean))
abbrev M_X0_makeshift : mc_M := (⟨RX0, "makeshift", "(I)J"⟩, prog_2_method_6_code, 5, (some .long))
abbrev M_X0_firstThatLessensMakeshift : mc_M := (⟨RX0, "firstThatLessensMakeshift", "()I"⟩, prog_2_method_7_code, 2, (some .int))
abbrev M_X0_driveOutMakeshift : mc_M := (⟨RX0, "driveOutMakeshift", "()V"⟩, prog_2_method_8_code, 3, none)
abbrev M_X0_makeLeast : mc_M := (⟨RX0, "makeLeast", "(I)V"⟩, prog_2_method_9_code, 5, none)
abbrev M_X0_makeGreatest : mc_M := (⟨RX0, "makeGreatest", "(I)Z"⟩, prog_2_method_10_code, 5, (some .boolean))
abbrev M_X0_rowThatGives : mc_M := (⟨RX0, "rowThatGives", "(I)I"⟩, prog_2_method_11_code, 3, (some .int))
abbrev M_X0_firstOfSign : mc_M := (⟨RX0, "firstOfSign", "(III)I"⟩, prog_2_method_12_code, 5, (some .int))
abbrev M_X0_leavingRow : mc_M := (⟨RX0, "leavingRow", "(I)I"⟩, prog_2_method_13_code, 4, (some .int))
abbrev M_X0_leavesAhead : mc_M := (⟨RX0, "leavesAhead", "(III)Z"⟩, prog_2_method_14_code, 8, (some .boolean))
abbrev M_X0_pivot : mc_M := (⟨RX0, "pivot", "(II)V"⟩, prog_2_method_15_code, 6, none)
abbrev M_X0_turnSigns : mc_M := (⟨RX0, "turnSigns", "(I)V"⟩, prog_2_method_16_code, 3, none)
abbrev M_X0_clearBy : mc_M := (⟨RX0, "clearBy", "(III)V"⟩, prog_2_method_17_code, 9, none)
abbrev M_X0_numerator : mc_M := (⟨RX0, "numerator", "(I)J"⟩, prog_2_method_18_code, 3, (some .long))
abbrev M_X0_denominator : mc_M := (⟨RX0, "denominator", "(I)J"⟩, prog_2_method_19_code, 3, (some .long))
abbrev M_X0_commonDivisor : mc_M := (⟨RX0, "commonDivisor", "(JJ)J"⟩, prog_2_method_20_code, 11, (some .long))
abbrev M_X1_init : mc_M := (⟨RX1, "<init>", "()V"⟩, prog_3_method_1_code, 1, none)
abbrev M_X1_find : mc_M := (⟨RX1, "find", "(LRestingBlocks$Pile;)V"⟩, prog_3_method_2_code, 3, none)
abbrev M_X1_findLevel : mc_M := (⟨RX1, "findLevel", "(I)V"⟩, prog_3_method_3_code, 4, none)
abbrev M_X1_findUnder : mc_M := (⟨RX1, "findUnder", "(I)V"⟩, prog_3_method_4_code, 3, none)
abbrev M_X1_findContacts : mc_M := (⟨RX1, "findContacts", "(I)V"⟩, prog_3_method_5_code, 3, none)
abbrev M_X1_addContact : mc_M := (⟨RX1, "addContact", "(III)V"⟩, prog_3_method_6_code, 4, none)
abbrev M_X1_overlap : mc_M := (⟨RX1, "overlap", "(II)Z"⟩, prog_3_method_7_code, 3, (some .boolean))
abbrev M_X1_contacts : mc_M := (⟨RX1, "contacts", "()I"⟩, prog_3_method_8_code, 1, (some .int))
abbrev M_X1_level : mc_M := (⟨RX1, "level", "(I)I"⟩, prog_3_method_9_code, 2, (some .int))
abbrev M_X1_under : mc_M := (⟨RX1, "under", "(I)I"⟩, prog_3_method_10_code, 2, (some .int))
abbrev M_X1_over : mc_M := (⟨RX1, "over", "(I)I"⟩, prog_3_method_11_code, 2, (some .int))
abbrev M_X1_greatestLevel : mc_M := (⟨RX1, "greatestLevel", "()I"⟩, prog_3_method_12_code, 3, (some .int))
abbrev M_X1_upper : mc_M := (⟨RX1, "upper", "(I)I"⟩, prog_3_method_13_code, 2, (some .int))
abbrev M_X1_lower : mc_M := (⟨RX1, "lower", "(I)I"⟩, prog_3_method_14_code, 2, (some .int))
abbrev M_X1_x : mc_M := (⟨RX1, "x", "(I)I"⟩, prog_3_method_15_code, 2, (some .int))
abbrev M_X2_init : mc_M := (⟨RX2, "<init>", "()V"⟩, prog_4_method_1_code, 1, none)
abbrev M_X2_size : mc_M := (⟨RX2, "size", "()I"⟩, prog_4_method_2_code, 1, (some .int))
abbrev M_X2_has : mc_M := (⟨RX2, "has", "(I)Z"⟩, prog_4_method_3_code, 2, (some .boolean))
abbrev M_X2_get : mc_M := (⟨RX2, "get", "(II)I"⟩, prog_4_method_4_code, 3, (some .int))
abbrev M_X2_set : mc_M := (⟨RX2, "set", "(III)V"⟩, prog_4_method_5_code, 4, none)
abbrev M_X2_empty : mc_M := (⟨RX2, "empty", "()V"⟩, prog_4_method_6_code, 1, none)
abbrev M_X2_add : mc_M := (⟨RX2, "add", "(III)V"⟩, prog_4_method_7_code, 5, none)
abbrev M_X2_takeOut : mc_M := (⟨RX2, "takeOut", "(I)V"⟩, prog_4_method_8_code, 3, none)
abbrev M_X2_heaviness : mc_M := (⟨RX2, "heaviness", "()I"⟩, prog_4_method_9_code, 3, (some .int))
abbrev M_X2_copy : mc_M := (⟨RX2, "copy", "(LRestingBlocks$Pile;)V"⟩, prog_4_method_10_code, 2, none)
abbrev M_X3_init : mc_M := (⟨RX3, "<init>", "(I)V"⟩, prog_5_method_1_code, 2, none)
abbrev M_X3_write : mc_M := (⟨RX3, "write", "(ILRestingBlocks$Pile;)V"⟩, prog_5_method_2_code, 3, none)
abbrev M_X3_read : mc_M := (⟨RX3, "read", "(ILRestingBlocks$Pile;)V"⟩, prog_5_method_3_code, 3, none)
abbrev M_X3_forgetFirst : mc_M := (⟨RX3, "forgetFirst", "()V"⟩, prog_5_method_4_code, 1, none)
abbrev M_X4_init : mc_M := (⟨RX4, "<init>", "()V"⟩, prog_6_method_1_code, 1, none)
abbrev M_X4_length : mc_M := (⟨RX4, "length", "()I"⟩, prog_6_method_2_code, 1, (some .int))
abbrev M_X4_place : mc_M := (⟨RX4, "place", "()I"⟩, prog_6_method_3_code, 1, (some .int))
abbrev M_X4_append : mc_M := (⟨RX4, "append", "(I)Z"⟩, prog_6_method_4_code, 2, (some .boolean))
abbrev M_X4_wipe : mc_M := (⟨RX4, "wipe", "()V"⟩, prog_6_method_5_code, 1, none)
abbrev M_X4_readInto : mc_M := (⟨RX4, "readInto", "(LRestingBlocks$Pile;)I"⟩, prog_6_method_6_code, 3, (some .int))
abbrev M_X4_readItem : mc_M := (⟨RX4, "readItem", "(LRestingBlocks$Pile;)Z"⟩, prog_6_method_7_code, 2, (some .boolean))
abbrev M_X4_readBlock : mc_M := (⟨RX4, "readBlock", "(LRestingBlocks$Pile;)Z"⟩, prog_6_method_8_code, 5, (some .boolean))
abbrev M_X4_readLoad : mc_M := (⟨RX4, "readLoad", "(LRestingBlocks$Pile;)Z"⟩, prog_6_method_9_code, 5, (some .boolean))
abbrev M_X4_readNumber : mc_M := (⟨RX4, "readNumber", "(II)I"⟩, prog_6_method_10_code, 7, (some .int))
abbrev M_X4_readEnd : mc_M := (⟨RX4, "readEnd", "()Z"⟩, prog_6_method_11_code, 1, (some .boolean))
abbrev M_X4_skipBlanks : mc_M := (⟨RX4, "skipBlanks", "()V"⟩, prog_6_method_12_code, 1, none)
abbrev M_X4_next : mc_M := (⟨RX4, "next", "()I"⟩, prog_6_method_13_code, 1, (some .int))
abbrev M_X4_isFigure : mc_M := (⟨RX4, "isFigure", "(I)Z"⟩, prog_6_method_14_code, 1, (some .boolean))
abbrev M_X5_init : mc_M := (⟨RX5, "<init>", "()V"⟩, prog_1_method_1_code, 1, none)
abbrev M_X5_type : mc_M := (⟨RX5, "type", "(I)I"⟩, prog_1_method_2_code, 2, (some .int))
abbrev M_X5_clear : mc_M := (⟨RX5, "clear", "()I"⟩, prog_1_method_3_code, 2, (some .int))
abbrev M_X5_tells : mc_M := (⟨RX5, "tells", "()I"⟩, prog_1_method_4_code, 2, (some .int))
abbrev M_X5_drops : mc_M := (⟨RX5, "drops", "(III)I"⟩, prog_1_method_5_code, 4, (some .int))
abbrev M_X5_lifts : mc_M := (⟨RX5, "lifts", "(I)I"⟩, prog_1_method_6_code, 2, (some .int))
abbrev M_X5_weighs : mc_M := (⟨RX5, "weighs", "(II)I"⟩, prog_1_method_7_code, 4, (some .int))
abbrev M_X5_loads : mc_M := (⟨RX5, "loads", "(III)I"⟩, prog_1_method_8_code, 5, (some .int))
abbrev M_X5_undo : mc_M := (⟨RX5, "undo", "()I"⟩, prog_1_method_9_code, 1, (some .int))
abbrev M_X5_block : mc_M := (⟨RX5, "block", "(II)I"⟩, prog_1_method_10_code, 3, (some .int))
abbrev M_X5_contact : mc_M := (⟨RX5, "contact", "(II)I"⟩, prog_1_method_11_code, 3, (some .int))
abbrev M_X5_rests : mc_M := (⟨RX5, "rests", "()I"⟩, prog_1_method_12_code, 1, (some .int))
abbrev M_X5_bounds : mc_M := (⟨RX5, "bounds", "(II)J"⟩, prog_1_method_13_code, 3, (some .long))
abbrev M_X5_bears : mc_M := (⟨RX5, "bears", "(III)J"⟩, prog_1_method_14_code, 4, (some .long))
abbrev M_X5_where : mc_M := (⟨RX5, "where", "(II)I"⟩, prog_1_method_15_code, 5, (some .int))
abbrev M_X5_weights : mc_M := (⟨RX5, "weights", "(I)I"⟩, prog_1_method_16_code, 4, (some .int))
abbrev M_X5_key : mc_M := (⟨RX5, "key", "()I"⟩, prog_1_method_17_code, 2, (some .int))
abbrev M_X5_hold : mc_M := (⟨RX5, "hold", "()I"⟩, prog_1_method_18_code, 4, (some .int))
abbrev M_X5_keep : mc_M := (⟨RX5, "keep", "(I)I"⟩, prog_1_method_19_code, 2, (some .int))
abbrev M_X5_back : mc_M := (⟨RX5, "back", "(I)I"⟩, prog_1_method_20_code, 2, (some .int))
abbrev M_X5_count : mc_M := (⟨RX5, "count", "(I)I"⟩, prog_1_method_21_code, 2, (some .int))
abbrev M_X5_within : mc_M := (⟨RX5, "within", "(III)Z"⟩, prog_1_method_22_code, 3, (some .boolean))
abbrev M_X5_isBlock : mc_M := (⟨RX5, "isBlock", "(II)Z"⟩, prog_1_method_23_code, 2, (some .boolean))
abbrev M_X5_isSpot : mc_M := (⟨RX5, "isSpot", "(II)Z"⟩, prog_1_method_24_code, 3, (some .boolean))
abbrev M_X5_remember : mc_M := (⟨RX5, "remember", "()V"⟩, prog_1_method_25_code, 1, none)
abbrev M_X5_isBalanced : mc_M := (⟨RX5, "isBalanced", "(LRestingBlocks$Pile;I)Z"⟩, prog_1_method_26_code, 3, (some .boolean))
abbrev M_X5_restsWithout : mc_M := (⟨RX5, "restsWithout", "(I)Z"⟩, prog_1_method_27_code, 2, (some .boolean))
abbrev M_X5_extreme : mc_M := (⟨RX5, "extreme", "(II)J"⟩, prog_1_method_28_code, 3, (some .long))
abbrev M_X6_init : mc_M := (⟨RX6, "<init>", "()V"⟩, prog_8_method_1_code, 1, none)
abbrev M_X6_within : mc_M := (⟨RX6, "within", "(III)Z"⟩, prog_8_method_3_code, 3, (some .boolean))
abbrev M_X6_has : mc_M := (⟨RX6, "has", "(II)Z"⟩, prog_8_method_4_code, 2, (some .boolean))
abbrev M_X6_ones : mc_M := (⟨RX6, "ones", "(I)I"⟩, prog_8_method_5_code, 3, (some .int))
abbrev M_X6_many : mc_M := (⟨RX6, "many", "()I"⟩, prog_8_method_6_code, 1, (some .int))
abbrev M_X6_isBlock : mc_M := (⟨RX6, "isBlock", "(I)Z"⟩, prog_8_method_7_code, 2, (some .boolean))
abbrev M_X6_get : mc_M := (⟨RX6, "get", "(II)I"⟩, prog_8_method_8_code, 3, (some .int))
abbrev M_X6_end : mc_M := (⟨RX6, "end", "(I)I"⟩, prog_8_method_9_code, 2, (some .int))
abbrev M_X6_fits : mc_M := (⟨RX6, "fits", "(III)Z"⟩, prog_8_method_10_code, 3, (some .boolean))
abbrev M_X6_appends : mc_M := (⟨RX6, "appends", "(III)V"⟩, prog_8_method_11_code, 5, none)
abbrev M_X6_removes : mc_M := (⟨RX6, "removes", "(I)V"⟩, prog_8_method_12_code, 3, none)
abbrev M_X6_from : mc_M := (⟨RX6, "from", "(II)I"⟩, prog_8_method_13_code, 3, (some .int))
abbrev M_X6_to : mc_M := (⟨RX6, "to", "(II)I"⟩, prog_8_method_14_code, 3, (some .int))
abbrev M_X6_doOverlap : mc_M := (⟨RX6, "doOverlap", "(II)Z"⟩, prog_8_method_15_code, 3, (some .boolean))
abbrev M_X6_touches : mc_M := (⟨RX6, "touches", "(III)V"⟩, prog_8_method_16_code, 4, none)
abbrev M_X6_layBlock : mc_M := (⟨RX6, "layBlock", "(I)V"⟩, prog_8_method_17_code, 3, none)
abbrev M_X6_layAll : mc_M := (⟨RX6, "layAll", "()V"⟩, prog_8_method_18_code, 2, none)
abbrev M_X6_above : mc_M := (⟨RX6, "above", "(I)I"⟩, prog_8_method_19_code, 4, (some .int))
abbrev M_X6_layRow : mc_M := (⟨RX6, "layRow", "(IIIIZ)V"⟩, prog_8_method_20_code, 9, none)
abbrev M_X6_layRows : mc_M := (⟨RX6, "layRows", "(IIIZ)V"⟩, prog_8_method_21_code, 6, none)
abbrev M_X6_swaps : mc_M := (⟨RX6, "swaps", "(II)V"⟩, prog_8_method_22_code, 6, none)
abbrev M_X6_clears : mc_M := (⟨RX6, "clears", "(IIJ)V"⟩, prog_8_method_23_code, 10, none)
abbrev M_X6_pivot : mc_M := (⟨RX6, "pivot", "(I)I"⟩, prog_8_method_24_code, 4, (some .int))
abbrev M_X6_fills : mc_M := (⟨RX6, "fills", "(I)V"⟩, prog_8_method_25_code, 5, none)
abbrev M_X6_solves : mc_M := (⟨RX6, "solves", "(I)Z"⟩, prog_8_method_26_code, 7, (some .boolean))
abbrev M_X6_divisor : mc_M := (⟨RX6, "divisor", "()J"⟩, prog_8_method_27_code, 1, (some .long))
abbrev M_X6_isNoneBelow : mc_M := (⟨RX6, "isNoneBelow", "()Z"⟩, prog_8_method_28_code, 6, (some .boolean))
abbrev M_X6_solved : mc_M := (⟨RX6, "solved", "(II)J"⟩, prog_8_method_29_code, 5, (some .long))
abbrev M_X6_meets : mc_M := (⟨RX6, "meets", "(JJ)V"⟩, prog_8_method_30_code, 5, none)
abbrev M_X6_seeks : mc_M := (⟨RX6, "seeks", "(I)V"⟩, prog_8_method_31_code, 5, none)
abbrev M_X6_all : mc_M := (⟨RX6, "all", "()I"⟩, prog_8_method_32_code, 1, (some .int))
abbrev M_X6_canBalance : mc_M := (⟨RX6, "canBalance", "(I)Z"⟩, prog_8_method_33_code, 2, (some .boolean))
abbrev M_X6_isResting : mc_M := (⟨RX6, "isResting", "()Z"⟩, prog_8_method_34_code, 1, (some .boolean))
abbrev M_X6_common : mc_M := (⟨RX6, "common", "(JJ)J"⟩, prog_8_method_35_code, 10, (some .long))
abbrev M_X6_told : mc_M := (⟨RX6, "told", "(I)J"⟩, prog_8_method_36_code, 8, (some .long))
abbrev M_X6_skips : mc_M := (⟨RX6, "skips", "()V"⟩, prog_8_method_37_code, 1, none)
abbrev M_X6_isFigure : mc_M := (⟨RX6, "isFigure", "()Z"⟩, prog_8_method_38_code, 1, (some .boolean))
abbrev M_X6_passes : mc_M := (⟨RX6, "passes", "(I)Z"⟩, prog_8_method_39_code, 3, (some .boolean))
abbrev M_X6_number : mc_M := (⟨RX6, "number", "(II)I"⟩, prog_8_method_40_code, 6, (some .int))
abbrev M_X6_readsBlock : mc_M := (⟨RX6, "readsBlock", "()Z"⟩, prog_8_method_41_code, 4, (some .boolean))
abbrev M_X6_readsLoad : mc_M := (⟨RX6, "readsLoad", "()Z"⟩, prog_8_method_42_code, 4, (some .boolean))
abbrev M_X6_reads : mc_M := (⟨RX6, "reads", "()Z"⟩, prog_8_method_43_code, 2, (some .boolean))
abbrev M_X6_type : mc_M := (⟨RX6, "type", "(I)I"⟩, prog_8_method_44_code, 2, (some .int))
abbrev M_X6_clear : mc_M := (⟨RX6, "clear", "()I"⟩, prog_8_method_45_code, 2, (some .int))
abbrev M_X6_lays : mc_M := (⟨RX6, "lays", "([II)V"⟩, prog_8_method_46_code, 4, none)
abbrev M_X6_takes : mc_M := (⟨RX6, "takes", "([II)V"⟩, prog_8_method_47_code, 4, none)
abbrev M_X6_keeps : mc_M := (⟨RX6, "keeps", "()V"⟩, prog_8_method_48_code, 2, none)
abbrev M_X6_tells : mc_M := (⟨RX6, "tells", "()I"⟩, prog_8_method_49_code, 1, (some .int))
abbrev M_X6_drops : mc_M := (⟨RX6, "drops", "(III)I"⟩, prog_8_method_50_code, 4, (some .int))
abbrev M_X6_lifts : mc_M := (⟨RX6, "lifts", "(I)I"⟩, prog_8_method_51_code, 2, (some .int))
abbrev M_X6_weighs : mc_M := (⟨RX6, "weighs", "(II)I"⟩, prog_8_method_52_code, 4, (some .int))
abbrev M_X6_isSpot : mc_M := (⟨RX6, "isSpot", "(II)Z"⟩, prog_8_method_53_code, 3, (some .boolean))
abbrev M_X6_loads : mc_M := (⟨RX6, "loads", "(III)I"⟩, prog_8_method_54_code, 5, (some .int))
abbrev M_X6_undo : mc_M := (⟨RX6, "undo", "()I"⟩, prog_8_method_55_code, 1, (some .int))
abbrev M_X6_tellBlock : mc_M := (⟨RX6, "tellBlock", "(II)I"⟩, prog_8_method_56_code, 3, (some .int))
abbrev M_X6_block : mc_M := (⟨RX6, "block", "(II)I"⟩, prog_8_method_57_code, 3, (some .int))
abbrev M_X6_isContact : mc_M := (⟨RX6, "isContact", "(I)Z"⟩, prog_8_method_58_code, 2, (some .boolean))
abbrev M_X6_contact : mc_M := (⟨RX6, "contact", "(II)I"⟩, prog_8_method_59_code, 3, (some .int))
abbrev M_X6_rests : mc_M := (⟨RX6, "rests", "()I"⟩, prog_8_method_60_code, 1, (some .int))
abbrev M_X6_bounds : mc_M := (⟨RX6, "bounds", "(II)J"⟩, prog_8_method_61_code, 3, (some .long))
abbrev M_X6_bears : mc_M := (⟨RX6, "bears", "(III)J"⟩, prog_8_method_62_code, 5, (some .long))
abbrev M_X6_where : mc_M := (⟨RX6, "where", "(II)I"⟩, prog_8_method_63_code, 5, (some .int))
abbrev M_X6_weights : mc_M := (⟨RX6, "weights", "(I)I"⟩, prog_8_method_64_code, 5, (some .int))
abbrev M_X6_restsWithout : mc_M := (⟨RX6, "restsWithout", "(I)Z"⟩, prog_8_method_65_code, 3, (some .boolean))
abbrev M_X6_key : mc_M := (⟨RX6, "key", "()I"⟩, prog_8_method_66_code, 2, (some .int))
abbrev M_X6_hold : mc_M := (⟨RX6, "hold", "()I"⟩, prog_8_method_67_code, 3, (some .int))
abbrev M_X6_keep : mc_M := (⟨RX6, "keep", "(I)I"⟩, prog_8_method_68_code, 2, (some .int))
abbrev M_X6_back : mc_M := (⟨RX6, "back", "(I)I"⟩, prog_8_method_69_code, 2, (some .int))
abbrev M_X6_heavy : mc_M := (⟨RX6, "heavy", "()I"⟩, prog_8_method_70_code, 3, (some .int))
abbrev M_X6_highest : mc_M := (⟨RX6, "highest", "()I"⟩, prog_8_method_71_code, 3, (some .int))
abbrev M_X6_contactsNow : mc_M := (⟨RX6, "contactsNow", "()I"⟩, prog_8_method_72_code, 1, (some .int))
abbrev M_X6_count : mc_M := (⟨RX6, "count", "(I)I"⟩, prog_8_method_73_code, 2, (some .int))
abbrev M_J6_bitCount_0f7a4 : mc_M := (⟨RJ6, "bitCount", "(I)I"⟩, prog_9_method_49_code, 1, (some .int))
abbrev M_J9_abs_067f4 : mc_M := (⟨RJ9, "abs", "(J)J"⟩, prog_10_method_61_code, 2, (some .long))
abbrev M_J9_max_7cf53 : mc_M := (⟨RJ9, "max", "(II)I"⟩, prog_10_method_65_code, 2, (some .int))
abbrev M_J9_min_7cf53 : mc_M := (⟨RJ9, "min", "(II)I"⟩, prog_10_method_69_code, 2, (some .int))
theorem ok_X0_init : mc_ok M_X0_init 0 := ⟨by decide +kernel, ⟨by decide +kernel, by decide +kernel⟩, by decide +kernel, by decide, mc_in 146 (by decide +kernel) (by decide +kernel), iniX0⟩
theorem st_X0_init : Cond.instanceMethod M_X0_init.1 ∈ mc_tbl := mc_in 145 (by decide +kernel) (by decide +kernel)
theorem ok_X0_pose : mc_ok M_X0_pose 3 := ⟨by decide +kernel, ⟨by decide +kernel, by decide +kernel⟩, by decide +kernel, by decide, mc_in 466 (by decide +kernel) (by decide +kernel), iniX0⟩
theorem st_X0_pose : Cond.instanceMethod M_X0_pose.1 ∈ mc_tbl := mc_in 464 (by decide +kernel) (by decide +kernel)
theorem se_X0_pose : Cond.selects RX0 M_X0_pose.1 M_X0_pose.1 ∈ mc_tbl := mc_in 465 (by decide +kernel) (by decide +kernel)
theorem ok_X0_poseBlock : mc_ok M_X0_poseBlock 3 := ⟨by decide +kernel, ⟨by decide +kernel, by decide +kernel⟩, by decide +kernel, by decide, mc_in 473 (by decide +kernel) (by decide +kernel), iniX0⟩
theorem st_X0_poseBlock : Cond.instanceMethod M_X0_poseBlock.1 ∈ mc_tbl := mc_in 472 (by decide +kernel) (by decide +kernel)
theorem se_X0_poseBlock : Cond.selects RX0 M_X0_poseBlock.1 M_X0_poseBlock.1 ∈ mc_tbl := mc_in 15 (by decide +kernel) (by decide +kernel)
theorem ok_X0_poseLoad : mc_ok M_X0_poseLoad 2 := ⟨by decide +kernel, ⟨by decide +kernel, by decide +kernel⟩, by decide +kernel, by decide, mc_in 563 (by decide +kernel) (by decide +kernel), iniX0⟩
theorem st_X0_poseLoad : Cond.instanceMethod M_X0_poseLoad.1 ∈ mc_tbl := mc_in 561 (by decide +kernel) (by decide +kernel)
theorem se_X0_poseLoad : Cond.selects RX0 M_X0_poseLoad.1 M_X0_poseLoad.1 ∈ mc_tbl := mc_in 562 (by decide +kernel) (by decide +kernel)
theorem ok_X0_solve : mc_ok M_X0_solve 0 := ⟨by decide +kernel, ⟨by decide +kernel, by decide +kernel⟩, by decide +kernel, by decide, mc_in 481 (by decide +kernel) (by decide +kernel), iniX0⟩
theorem st_X0_solve : Cond.instanceMethod M_X0_solve.1 ∈ mc_tbl := mc_in 479 (by decide +kernel) (by decide +kernel)
theorem se_X0_solve : Cond.selects RX0 M_X0_solve.1 M_X0_solve.1 ∈ mc_tbl := mc_in 480 (by decide +kernel) (by decide +kernel)
theorem ok_X0_makeshift : mc_ok M_X0_makeshift 1 := ⟨by decide +kernel, ⟨by decide +kernel, by decide +kernel⟩, by decide +kernel, by decide, mc_in 490 (by decide +kernel) (by decide +kernel), iniX0⟩
theorem st_X0_makeshift : Cond.instanceMethod M_X0_makeshift.1 ∈ mc_tbl := mc_in 489 (by decide +kernel) (by decide +kernel)
theorem se_X0_makeshift : Cond.selects RX0 M_X0_makeshift.1 M_X0_makeshift.1 ∈ mc_tbl := mc_in 17 (by decide +kernel) (by decide +kernel)
theorem ok_X0_firstThatLessensMakeshift : mc_ok M_X0_firstThatLessensMakeshift 0 := ⟨by decide +kernel, ⟨by decide +kernel, by decide +kernel⟩, by decide +kernel, by decide, mc_in 486 (by decide +kernel) (by decide +kernel), iniX0⟩
theorem st_X0_firstThatLessensMakeshift : Cond.instanceMethod M_X0_firstThatLessensMakeshift.1 ∈ mc_tbl := mc_in 485 (by decide +kernel) (by decide +kernel)
theorem se_X0_firstThatLessensMakeshift : Cond.selects RX0 M_X0_firstThatLessensMakeshift.1 M_X0_firstThatLessensMakeshift.1 ∈ mc_tbl := mc_in 16 (by decide +kernel) (by decide +kernel)
theorem ok_X0_driveOutMakeshift : mc_ok M_X0_driveOutMakeshift 0 := ⟨by decide +kernel, ⟨by decide +kernel, by decide +kernel⟩, by decide +kernel, by decide, mc_in 514 (by decide +kernel) (by decide +kernel), iniX0⟩
theorem st_X0_driveOutMakeshift : Cond.instanceMethod M_X0_driveOutMakeshift.1 ∈ mc_tbl := mc_in 513 (by decide +kernel) (by decide +kernel)
theorem se_X0_driveOutMakeshift : Cond.selects RX0 M_X0_driveOutMakeshift.1 M_X0_driveOutMakeshift.1 ∈ mc_tbl := mc_in 23 (by decide +kernel) (by decide +kernel)
theorem ok_X0_makeLeast : mc_ok M_X0_makeLeast 1 := ⟨by decide +kernel, ⟨by decide +kernel, by decide +kernel⟩, by decide +kernel, by decide, mc_in 528 (by decide +kernel) (by decide +kernel), iniX0⟩
theorem st_X0_makeLeast : Cond.instanceMethod M_X0_makeLeast.1 ∈ mc_tbl := mc_in 526 (by decide +kernel) (by decide +kernel)
theorem se_X0_makeLeast : Cond.selects RX0 M_X0_makeLeast.1 M_X0_makeLeast.1 ∈ mc_tbl := mc_in 527 (by decide +kernel) (by decide +kernel)
theorem ok_X0_makeGreatest : mc_ok M_X0_makeGreatest 1 := ⟨by decide +kernel, ⟨by decide +kernel, by decide +kernel⟩, by decide +kernel, by decide, mc_in 540 (by decide +kernel) (by decide +kernel), iniX0⟩
theorem st_X0_makeGreatest : Cond.instanceMethod M_X0_makeGreatest.1 ∈ mc_tbl := mc_in 538 (by decide +kernel) (by decide +kernel)
theorem se_X0_makeGreatest : Cond.selects RX0 M_X0_makeGreatest.1 M_X0_makeGreatest.1 ∈ mc_tbl := mc_in 539 (by decide +kernel) (by decide +kernel)
theorem ok_X0_rowThatGives : mc_ok M_X0_rowThatGives 1 := ⟨by decide +kernel, ⟨by decide +kernel, by decide +kernel⟩, by decide +kernel, by decide, mc_in 532 (by decide +kernel) (by decide +kernel), iniX0⟩
theorem st_X0_rowThatGives : Cond.instanceMethod M_X0_rowThatGives.1 ∈ mc_tbl := mc_in 531 (by decide +kernel) (by decide +kernel)
theorem se_X0_rowThatGives : Cond.selects RX0 M_X0_rowThatGives.1 M_X0_rowThatGives.1 ∈ mc_tbl := mc_in 25 (by decide +kernel) (by decide +kernel)
theorem ok_X0_firstOfSign : mc_ok M_X0_firstOfSign 3 := ⟨by decide +kernel, ⟨by decide +kernel, by decide +kernel⟩, by decide +kernel, by decide, mc_in 536 (by decide +kernel) (by decide +kernel), iniX0⟩
theorem st_X0_firstOfSign : Cond.instanceMethod M_X0_firstOfSign.1 ∈ mc_tbl := mc_in 535 (by decide +kernel) (by decide +kernel)
theorem se_X0_firstOfSign : Cond.selects RX0 M_X0_firstOfSign.1 M_X0_firstOfSign.1 ∈ mc_tbl := mc_in 26 (by decide +kernel) (by decide +kernel)
theorem ok_X0_leavingRow : mc_ok M_X0_leavingRow 1 := ⟨by decide +kernel, ⟨by decide +kernel, by decide +kernel⟩, by decide +kernel, by decide, mc_in 494 (by decide +kernel) (by decide +kernel), iniX0⟩
theorem st_X0_leavingRow : Cond.instanceMethod M_X0_leavingRow.1 ∈ mc_tbl := mc_in 493 (by decide +kernel) (by decide +kernel)
theorem se_X0_leavingRow : Cond.selects RX0 M_X0_leavingRow.1 M_X0_leavingRow.1 ∈ mc_tbl := mc_in 18 (by decide +kernel) (by decide +kernel)
theorem ok_X0_leavesAhead : mc_ok M_X0_leavesAhead 3 := ⟨by decide +kernel, ⟨by decide +kernel, by decide +kernel⟩, by decide +kernel, by decide, mc_in 498 (by decide +kernel) (by decide +kernel), iniX0⟩
theorem st_X0_leavesAhead : Cond.instanceMethod M_X0_leavesAhead.1 ∈ mc_tbl := mc_in 497 (by decide +kernel) (by decide +kernel)
theorem se_X0_leavesAhead : Cond.selects RX0 M_X0_leavesAhead.1 M_X0_leavesAhead.1 ∈ mc_tbl := mc_in 19 (by decide +kernel) (by decide +kernel)
theorem ok_X0_pivot : mc_ok M_X0_pivot 2 := ⟨by decide +kernel, ⟨by decide +kernel, by decide +kernel⟩, by decide +kernel, by decide, mc_in 502 (by decide +kernel) (by decide +kernel), iniX0⟩
theorem st_X0_pivot : Cond.instanceMethod M_X0_pivot.1 ∈ mc_tbl := mc_in 501 (by decide +kernel) (by decide +kernel)
theorem se_X0_pivot : Cond.selects RX0 M_X0_pivot.1 M_X0_pivot.1 ∈ mc_tbl := mc_in 20 (by decide +kernel) (by decide +kernel)
theorem ok_X0_turnSigns : mc_ok M_X0_turnSigns 1 := ⟨by decide +kernel, ⟨by decide +kernel, by decide +kernel⟩, by decide +kernel, by decide, mc_in 506 (by decide +kernel) (by decide +kernel), iniX0⟩
theorem st_X0_turnSigns : Cond.instanceMethod M_X0_turnSigns.1 ∈ mc_tbl := mc_in 505 (by decide +kernel) (by decide +kernel)
theorem se_X0_turnSigns : Cond.selects RX0 M_X0_turnSigns.1 M_X0_turnSigns.1 ∈ mc_tbl := mc_in 21 (by decide +kernel) (by decide +kernel)
theorem ok_X0_clearBy : mc_ok M_X0_clearBy 3 := ⟨by decide +kernel, ⟨by decide +kernel, by decide +kernel⟩, by decide +kernel, by decide, mc_in 510 (by decide +kernel) (by decide +kernel), iniX0⟩
theorem st_X0_clearBy : Cond.instanceMethod M_X0_clearBy.1 ∈ mc_tbl := mc_in 509 (by decide +kernel) (by decide +kernel)
theorem se_X0_clearBy : Cond.selects RX0 M_X0_clearBy.1 M_X0_clearBy.1 ∈ mc_tbl := mc_in 22 (by decide +kernel) (by decide +kernel)
theorem ok_X0_numerator : mc_ok M_X0_numerator 1 := ⟨by decide +kernel, ⟨by decide +kernel, by decide +kernel⟩, by decide +kernel, by decide, mc_in 545 (by decide +kernel) (by decide +kernel), iniX0⟩
theorem st_X0_numerator : Cond.instanceMethod M_X0_numerator.1 ∈ mc_tbl := mc_in 543 (by decide +kernel) (by decide +kernel)
theorem se_X0_numerator : Cond.selects RX0 M_X0_numerator.1 M_X0_numerator.1 ∈ mc_tbl := mc_in 544 (by decide +kernel) (by decide +kernel)
theorem ok_X0_denominator : mc_ok M_X0_denominator 1 := ⟨by decide +kernel, ⟨by decide +kernel, by decide +kernel⟩, by decide +kernel, by decide, mc_in 555 (by decide +kernel) (by decide +kernel), iniX0⟩
theorem st_X0_denominator : Cond.instanceMethod M_X0_denominator.1 ∈ mc_tbl := mc_in 553 (by decide +kernel) (by decide +kernel)
theorem se_X0_denominator : Cond.selects RX0 M_X0_denominator.1 M_X0_denominator.1 ∈ mc_tbl := mc_in 554 (by decide +kernel) (by decide +kernel)
theorem ok_X0_commonDivisor : mc_ok M_X0_commonDivisor 2 := ⟨by decide +kernel, ⟨by decide +kernel, by decide +kernel⟩, by decide +kernel, by decide, mc_in 548 (by decide +kernel) (by decide +kernel), iniX0⟩
theorem st_X0_commonDivisor : Cond.static M_X0_commonDivisor.1 ∈ mc_tbl := mc_in 547 (by decide +kernel) (by decide +kernel)
theorem ok_X1_init : mc_ok M_X1_init 0 := ⟨by decide +kernel, ⟨by decide +kernel, by decide +kernel⟩, by decide +kernel, by decide, mc_in 109 (by decide +kernel) (by decide +kernel), iniX1⟩
theorem st_X1_init : Cond.instanceMethod M_X1_init.1 ∈ mc_tbl := mc_in 108 (by decide +kernel) (by decide +kernel)
theorem ok_X1_find : mc_ok M_X1_find 1 := ⟨by decide +kernel, ⟨by decide +kernel, by decide +kernel⟩, by decide +kernel, by decide, mc_in 362 (by decide +kernel) (by decide +kernel), iniX1⟩
theorem st_X1_find : Cond.instanceMethod M_X1_find.1 ∈ mc_tbl := mc_in 360 (by decide +kernel) (by decide +kernel)
theorem se_X1_find : Cond.selects RX1 M_X1_find.1 M_X1_find.1 ∈ mc_tbl := mc_in 361 (by decide +kernel) (by decide +kernel)
theorem ok_X1_findLevel : mc_ok M_X1_findLevel 1 := ⟨by decide +kernel, ⟨by decide +kernel, by decide +kernel⟩, by decide +kernel, by decide, mc_in 369 (by decide +kernel) (by decide +kernel), iniX1⟩
theorem st_X1_findLevel : Cond.instanceMethod M_X1_findLevel.1 ∈ mc_tbl := mc_in 368 (by decide +kernel) (by decide +kernel)
theorem se_X1_findLevel : Cond.selects RX1 M_X1_findLevel.1 M_X1_findLevel.1 ∈ mc_tbl := mc_in 8 (by decide +kernel) (by decide +kernel)
theorem ok_X1_findUnder : mc_ok M_X1_findUnder 1 := ⟨by decide +kernel, ⟨by decide +kernel, by decide +kernel⟩, by decide +kernel, by decide, mc_in 378 (by decide +kernel) (by decide +kernel), iniX1⟩
theorem st_X1_findUnder : Cond.instanceMethod M_X1_findUnder.1 ∈ mc_tbl := mc_in 377 (by decide +kernel) (by decide +kernel)
theorem se_X1_findUnder : Cond.selects RX1 M_X1_findUnder.1 M_X1_findUnder.1 ∈ mc_tbl := mc_in 10 (by decide +kernel) (by decide +kernel)
theorem ok_X1_findContacts : mc_ok M_X1_findContacts 1 := ⟨by decide +kernel, ⟨by decide +kernel, by decide +kernel⟩, by decide +kernel, by decide, mc_in 382 (by decide +kernel) (by decide +kernel), iniX1⟩
theorem st_X1_findContacts : Cond.instanceMethod M_X1_findContacts.1 ∈ mc_tbl := mc_in 381 (by decide +kernel) (by decide +kernel)
theorem se_X1_findContacts : Cond.selects RX1 M_X1_findContacts.1 M_X1_findContacts.1 ∈ mc_tbl := mc_in 11 (by decide +kernel) (by decide +kernel)
theorem ok_X1_addContact : mc_ok M_X1_addContact 3 := ⟨by decide +kernel, ⟨by decide +kernel, by decide +kernel⟩, by decide +kernel, by decide, mc_in 386 (by decide +kernel) (by decide +kernel), iniX1⟩
theorem st_X1_addContact : Cond.instanceMethod M_X1_addContact.1 ∈ mc_tbl := mc_in 385 (by decide +kernel) (by decide +kernel)
theorem se_X1_addContact : Cond.selects RX1 M_X1_addContact.1 M_X1_addContact.1 ∈ mc_tbl := mc_in 12 (by decide +kernel) (by decide +kernel)
theorem ok_X1_overlap : mc_ok M_X1_overlap 2 := ⟨by decide +kernel, ⟨by decide +kernel, by decide +kernel⟩, by decide +kernel, by decide, mc_in 373 (by decide +kernel) (by decide +kernel), iniX1⟩
theorem st_X1_overlap : Cond.instanceMethod M_X1_overlap.1 ∈ mc_tbl := mc_in 372 (by decide +kernel) (by decide +kernel)
theorem se_X1_overlap : Cond.selects RX1 M_X1_overlap.1 M_X1_overlap.1 ∈ mc_tbl := mc_in 9 (by decide +kernel) (by decide +kernel)
theorem ok_X1_contacts : mc_ok M_X1_contacts 0 := ⟨by decide +kernel, ⟨by decide +kernel, by decide +kernel⟩, by decide +kernel, by decide, mc_in 442 (by decide +kernel) (by decide +kernel), iniX1⟩
theorem st_X1_contacts : Cond.instanceMethod M_X1_contacts.1 ∈ mc_tbl := mc_in 440 (by decide +kernel) (by decide +kernel)
theorem se_X1_contacts : Cond.selects RX1 M_X1_contacts.1 M_X1_contacts.1 ∈ mc_tbl := mc_in 441 (by decide +kernel) (by decide +kernel)
theorem ok_X1_level : mc_ok M_X1_level 1 := ⟨by decide +kernel, ⟨by decide +kernel, by decide +kernel⟩, by decide +kernel, by decide, mc_in 390 (by decide +kernel) (by decide +kernel), iniX1⟩
theorem st_X1_level : Cond.instanceMethod M_X1_level.1 ∈ mc_tbl := mc_in 388 (by decide +kernel) (by decide +kernel)
theorem se_X1_level : Cond.selects RX1 M_X1_level.1 M_X1_level.1 ∈ mc_tbl := mc_in 389 (by decide +kernel) (by decide +kernel)
theorem ok_X1_under : mc_ok M_X1_under 1 := ⟨by decide +kernel, ⟨by decide +kernel, by decide +kernel⟩, by decide +kernel, by decide, mc_in 434 (by decide +kernel) (by decide +kernel), iniX1⟩
theorem st_X1_under : Cond.instanceMethod M_X1_under.1 ∈ mc_tbl := mc_in 432 (by decide +kernel) (by decide +kernel)
theorem se_X1_under : Cond.selects RX1 M_X1_under.1 M_X1_under.1 ∈ mc_tbl := mc_in 433 (by decide +kernel) (by decide +kernel)
theorem ok_X1_over : mc_ok M_X1_over 1 := ⟨by decide +kernel, ⟨by decide +kernel, by decide +kernel⟩, by decide +kernel, by decide, mc_in 400 (by decide +kernel) (by decide +kernel), iniX1⟩
theorem st_X1_over : Cond.instanceMethod M_X1_over.1 ∈ mc_tbl := mc_in 398 (by decide +kernel) (by decide +kernel)
theorem se_X1_over : Cond.selects RX1 M_X1_over.1 M_X1_over.1 ∈ mc_tbl := mc_in 399 (by decide +kernel) (by decide +kernel)
theorem ok_X1_greatestLevel : mc_ok M_X1_greatestLevel 0 := ⟨by decide +kernel, ⟨by decide +kernel, by decide +kernel⟩, by decide +kernel, by decide, mc_in 612 (by decide +kernel) (by decide +kernel), iniX1⟩
theorem st_X1_greatestLevel : Cond.instanceMethod M_X1_greatestLevel.1 ∈ mc_tbl := mc_in 610 (by decide +kernel) (by decide +kernel)
theorem se_X1_greatestLevel : Cond.selects RX1 M_X1_greatestLevel.1 M_X1_greatestLevel.1 ∈ mc_tbl := mc_in 611 (by decide +kernel) (by decide +kernel)
theorem ok_X1_upper : mc_ok M_X1_upper 1 := ⟨by decide +kernel, ⟨by decide +kernel, by decide +kernel⟩, by decide +kernel, by decide, mc_in 446 (by decide +kernel) (by decide +kernel), iniX1⟩
theorem st_X1_upper : Cond.instanceMethod M_X1_upper.1 ∈ mc_tbl := mc_in 444 (by decide +kernel) (by decide +kernel)
theorem se_X1_upper : Cond.selects RX1 M_X1_upper.1 M_X1_upper.1 ∈ mc_tbl := mc_in 445 (by decide +kernel) (by decide +kernel)
theorem ok_X1_lower : mc_ok M_X1_lower 1 := ⟨by decide +kernel, ⟨by decide +kernel, by decide +kernel⟩, by decide +kernel, by decide, mc_in 450 (by decide +kernel) (by decide +kernel), iniX1⟩
theorem st_X1_lower : Cond.instanceMethod M_X1_lower.1 ∈ mc_tbl := mc_in 448 (by decide +kernel) (by decide +kernel)
theorem se_X1_lower : Cond.selects RX1 M_X1_lower.1 M_X1_lower.1 ∈ mc_tbl := mc_in 449 (by decide +kernel) (by decide +kernel)
theorem ok_X1_x : mc_ok M_X1_x 1 := ⟨by decide +kernel, ⟨by decide +kernel, by decide +kernel⟩, by decide +kernel, by decide, mc_in 454 (by decide +kernel) (by decide +kernel), iniX1⟩
theorem st_X1_x : Cond.instanceMethod M_X1_x.1 ∈ mc_tbl := mc_in 452 (by decide +kernel) (by decide +kernel)
theorem se_X1_x : Cond.selects RX1 M_X1_x.1 M_X1_x.1 ∈ mc_tbl := mc_in 453 (by decide +kernel) (by decide +kernel)
theorem ok_X2_init : mc_ok M_X2_init 0 := ⟨by decide +kernel, ⟨by decide +kernel, by decide +kernel⟩, by decide +kernel, by decide, mc_in 97 (by decide +kernel) (by decide +kernel), iniX2⟩
theorem st_X2_init : Cond.instanceMethod M_X2_init.1 ∈ mc_tbl := mc_in 96 (by decide +kernel) (by decide +kernel)
theorem ok_X2_size : mc_ok M_X2_size 0 := ⟨by decide +kernel, ⟨by decide +kernel, by decide +kernel⟩, by decide +kernel, by decide, mc_in 286 (by decide +kernel) (by decide +kernel), iniX2⟩
theorem st_X2_size : Cond.instanceMethod M_X2_size.1 ∈ mc_tbl := mc_in 284 (by decide +kernel) (by decide +kernel)
theorem se_X2_size : Cond.selects RX2 M_X2_size.1 M_X2_size.1 ∈ mc_tbl := mc_in 285 (by decide +kernel) (by decide +kernel)
theorem ok_X2_has : mc_ok M_X2_has 1 := ⟨by decide +kernel, ⟨by decide +kernel, by decide +kernel⟩, by decide +kernel, by decide, mc_in 314 (by decide +kernel) (by decide +kernel), iniX2⟩
theorem st_X2_has : Cond.instanceMethod M_X2_has.1 ∈ mc_tbl := mc_in 312 (by decide +kernel) (by decide +kernel)
theorem se_X2_has : Cond.selects RX2 M_X2_has.1 M_X2_has.1 ∈ mc_tbl := mc_in 313 (by decide +kernel) (by decide +kernel)
theorem ok_X2_get : mc_ok M_X2_get 2 := ⟨by decide +kernel, ⟨by decide +kernel, by decide +kernel⟩, by decide +kernel, by decide, mc_in 323 (by decide +kernel) (by decide +kernel), iniX2⟩
theorem st_X2_get : Cond.instanceMethod M_X2_get.1 ∈ mc_tbl := mc_in 321 (by decide +kernel) (by decide +kernel)
theorem se_X2_get : Cond.selects RX2 M_X2_get.1 M_X2_get.1 ∈ mc_tbl := mc_in 322 (by decide +kernel) (by decide +kernel)
theorem ok_X2_set : mc_ok M_X2_set 3 := ⟨by decide +kernel, ⟨by decide +kernel, by decide +kernel⟩, by decide +kernel, by decide, mc_in 310 (by decide +kernel) (by decide +kernel), iniX2⟩
theorem st_X2_set : Cond.instanceMethod M_X2_set.1 ∈ mc_tbl := mc_in 308 (by decide +kernel) (by decide +kernel)
theorem se_X2_set : Cond.selects RX2 M_X2_set.1 M_X2_set.1 ∈ mc_tbl := mc_in 309 (by decide +kernel) (by decide +kernel)
theorem ok_X2_empty : mc_ok M_X2_empty 0 := ⟨by decide +kernel, ⟨by decide +kernel, by decide +kernel⟩, by decide +kernel, by decide, mc_in 266 (by decide +kernel) (by decide +kernel), iniX2⟩
theorem st_X2_empty : Cond.instanceMethod M_X2_empty.1 ∈ mc_tbl := mc_in 264 (by decide +kernel) (by decide +kernel)
theorem se_X2_empty : Cond.selects RX2 M_X2_empty.1 M_X2_empty.1 ∈ mc_tbl := mc_in 265 (by decide +kernel) (by decide +kernel)
theorem ok_X2_add : mc_ok M_X2_add 3 := ⟨by decide +kernel, ⟨by decide +kernel, by decide +kernel⟩, by decide +kernel, by decide, mc_in 305 (by decide +kernel) (by decide +kernel), iniX2⟩
theorem st_X2_add : Cond.instanceMethod M_X2_add.1 ∈ mc_tbl := mc_in 303 (by decide +kernel) (by decide +kernel)
theorem se_X2_add : Cond.selects RX2 M_X2_add.1 M_X2_add.1 ∈ mc_tbl := mc_in 304 (by decide +kernel) (by decide +kernel)
theorem ok_X2_takeOut : mc_ok M_X2_takeOut 1 := ⟨by decide +kernel, ⟨by decide +kernel, by decide +kernel⟩, by decide +kernel, by decide, mc_in 404 (by decide +kernel) (by decide +kernel), iniX2⟩
theorem st_X2_takeOut : Cond.instanceMethod M_X2_takeOut.1 ∈ mc_tbl := mc_in 402 (by decide +kernel) (by decide +kernel)
theorem se_X2_takeOut : Cond.selects RX2 M_X2_takeOut.1 M_X2_takeOut.1 ∈ mc_tbl := mc_in 403 (by decide +kernel) (by decide +kernel)
theorem ok_X2_heaviness : mc_ok M_X2_heaviness 0 := ⟨by decide +kernel, ⟨by decide +kernel, by decide +kernel⟩, by decide +kernel, by decide, mc_in 607 (by decide +kernel) (by decide +kernel), iniX2⟩
theorem st_X2_heaviness : Cond.instanceMethod M_X2_heaviness.1 ∈ mc_tbl := mc_in 605 (by decide +kernel) (by decide +kernel)
theorem se_X2_heaviness : Cond.selects RX2 M_X2_heaviness.1 M_X2_heaviness.1 ∈ mc_tbl := mc_in 606 (by decide +kernel) (by decide +kernel)
theorem ok_X2_copy : mc_ok M_X2_copy 1 := ⟨by decide +kernel, ⟨by decide +kernel, by decide +kernel⟩, by decide +kernel, by decide, mc_in 348 (by decide +kernel) (by decide +kernel), iniX2⟩
theorem st_X2_copy : Cond.instanceMethod M_X2_copy.1 ∈ mc_tbl := mc_in 346 (by decide +kernel) (by decide +kernel)
theorem se_X2_copy : Cond.selects RX2 M_X2_copy.1 M_X2_copy.1 ∈ mc_tbl := mc_in 347 (by decide +kernel) (by decide +kernel)
theorem ok_X3_init : mc_ok M_X3_init 1 := ⟨by decide +kernel, ⟨by decide +kernel, by decide +kernel⟩, by decide +kernel, by decide, mc_in 191 (by decide +kernel) (by decide +kernel), iniX3⟩
theorem st_X3_init : Cond.instanceMethod M_X3_init.1 ∈ mc_tbl := mc_in 190 (by decide +kernel) (by decide +kernel)
theorem ok_X3_write : mc_ok M_X3_write 2 := ⟨by decide +kernel, ⟨by decide +kernel, by decide +kernel⟩, by decide +kernel, by decide, mc_in 343 (by decide +kernel) (by decide +kernel), iniX3⟩
theorem st_X3_write : Cond.instanceMethod M_X3_write.1 ∈ mc_tbl := mc_in 341 (by decide +kernel) (by decide +kernel)
theorem se_X3_write : Cond.selects RX3 M_X3_write.1 M_X3_write.1 ∈ mc_tbl := mc_in 342 (by decide +kernel) (by decide +kernel)
theorem ok_X3_read : mc_ok M_X3_read 2 := ⟨by decide +kernel, ⟨by decide +kernel, by decide +kernel⟩, by decide +kernel, by decide, mc_in 426 (by decide +kernel) (by decide +kernel), iniX3⟩
theorem st_X3_read : Cond.instanceMethod M_X3_read.1 ∈ mc_tbl := mc_in 424 (by decide +kernel) (by decide +kernel)
theorem se_X3_read : Cond.selects RX3 M_X3_read.1 M_X3_read.1 ∈ mc_tbl := mc_in 425 (by decide +kernel) (by decide +kernel)
theorem ok_X3_forgetFirst : mc_ok M_X3_forgetFirst 0 := ⟨by decide +kernel, ⟨by decide +kernel, by decide +kernel⟩, by decide +kernel, by decide, mc_in 336 (by decide +kernel) (by decide +kernel), iniX3⟩
theorem st_X3_forgetFirst : Cond.instanceMethod M_X3_forgetFirst.1 ∈ mc_tbl := mc_in 334 (by decide +kernel) (by decide +kernel)
theorem se_X3_forgetFirst : Cond.selects RX3 M_X3_forgetFirst.1 M_X3_forgetFirst.1 ∈ mc_tbl := mc_in 335 (by decide +kernel) (by decide +kernel)
theorem ok_X4_init : mc_ok M_X4_init 0 := ⟨by decide +kernel, ⟨by decide +kernel, by decide +kernel⟩, by decide +kernel, by decide, mc_in 174 (by decide +kernel) (by decide +kernel), iniX4⟩
theorem st_X4_init : Cond.instanceMethod M_X4_init.1 ∈ mc_tbl := mc_in 173 (by decide +kernel) (by decide +kernel)
theorem ok_X4_length : mc_ok M_X4_length 0 := ⟨by decide +kernel, ⟨by decide +kernel, by decide +kernel⟩, by decide +kernel, by decide, mc_in 246 (by decide +kernel) (by decide +kernel), iniX4⟩
theorem st_X4_length : Cond.instanceMethod M_X4_length.1 ∈ mc_tbl := mc_in 244 (by decide +kernel) (by decide +kernel)
theorem se_X4_length : Cond.selects RX4 M_X4_length.1 M_X4_length.1 ∈ mc_tbl := mc_in 245 (by decide +kernel) (by decide +kernel)
theorem ok_X4_place : mc_ok M_X4_place 0 := ⟨by decide +kernel, ⟨by decide +kernel, by decide +kernel⟩, by decide +kernel, by decide, mc_in 328 (by decide +kernel) (by decide +kernel), iniX4⟩
theorem st_X4_place : Cond.instanceMethod M_X4_place.1 ∈ mc_tbl := mc_in 326 (by decide +kernel) (by decide +kernel)
theorem se_X4_place : Cond.selects RX4 M_X4_place.1 M_X4_place.1 ∈ mc_tbl := mc_in 327 (by decide +kernel) (by decide +kernel)
theorem ok_X4_append : mc_ok M_X4_append 1 := ⟨by decide +kernel, ⟨by decide +kernel, by decide +kernel⟩, by decide +kernel, by decide, mc_in 242 (by decide +kernel) (by decide +kernel), iniX4⟩
theorem st_X4_append : Cond.instanceMethod M_X4_append.1 ∈ mc_tbl := mc_in 240 (by decide +kernel) (by decide +kernel)
theorem se_X4_append : Cond.selects RX4 M_X4_append.1 M_X4_append.1 ∈ mc_tbl := mc_in 241 (by decide +kernel) (by decide +kernel)
theorem ok_X4_wipe : mc_ok M_X4_wipe 0 := ⟨by decide +kernel, ⟨by decide +kernel, by decide +kernel⟩, by decide +kernel, by decide, mc_in 254 (by decide +kernel) (by decide +kernel), iniX4⟩
theorem st_X4_wipe : Cond.instanceMethod M_X4_wipe.1 ∈ mc_tbl := mc_in 252 (by decide +kernel) (by decide +kernel)
theorem se_X4_wipe : Cond.selects RX4 M_X4_wipe.1 M_X4_wipe.1 ∈ mc_tbl := mc_in 253 (by decide +kernel) (by decide +kernel)
theorem ok_X4_readInto : mc_ok M_X4_readInto 1 := ⟨by decide +kernel, ⟨by decide +kernel, by decide +kernel⟩, by decide +kernel, by decide, mc_in 262 (by decide +kernel) (by decide +kernel), iniX4⟩
theorem st_X4_readInto : Cond.instanceMethod M_X4_readInto.1 ∈ mc_tbl := mc_in 260 (by decide +kernel) (by decide +kernel)
theorem se_X4_readInto : Cond.selects RX4 M_X4_readInto.1 M_X4_readInto.1 ∈ mc_tbl := mc_in 261 (by decide +kernel) (by decide +kernel)
theorem ok_X4_readItem : mc_ok M_X4_readItem 1 := ⟨by decide +kernel, ⟨by decide +kernel, by decide +kernel⟩, by decide +kernel, by decide, mc_in 278 (by decide +kernel) (by decide +kernel), iniX4⟩
theorem st_X4_readItem : Cond.instanceMethod M_X4_readItem.1 ∈ mc_tbl := mc_in 277 (by decide +kernel) (by decide +kernel)
theorem se_X4_readItem : Cond.selects RX4 M_X4_readItem.1 M_X4_readItem.1 ∈ mc_tbl := mc_in 2 (by decide +kernel) (by decide +kernel)
theorem ok_X4_readBlock : mc_ok M_X4_readBlock 1 := ⟨by decide +kernel, ⟨by decide +kernel, by decide +kernel⟩, by decide +kernel, by decide, mc_in 282 (by decide +kernel) (by decide +kernel), iniX4⟩
theorem st_X4_readBlock : Cond.instanceMethod M_X4_readBlock.1 ∈ mc_tbl := mc_in 281 (by decide +kernel) (by decide +kernel)
theorem se_X4_readBlock : Cond.selects RX4 M_X4_readBlock.1 M_X4_readBlock.1 ∈ mc_tbl := mc_in 3 (by decide +kernel) (by decide +kernel)
theorem ok_X4_readLoad : mc_ok M_X4_readLoad 1 := ⟨by decide +kernel, ⟨by decide +kernel, by decide +kernel⟩, by decide +kernel, by decide, mc_in 319 (by decide +kernel) (by decide +kernel), iniX4⟩
theorem st_X4_readLoad : Cond.instanceMethod M_X4_readLoad.1 ∈ mc_tbl := mc_in 318 (by decide +kernel) (by decide +kernel)
theorem se_X4_readLoad : Cond.selects RX4 M_X4_readLoad.1 M_X4_readLoad.1 ∈ mc_tbl := mc_in 6 (by decide +kernel) (by decide +kernel)
theorem ok_X4_readNumber : mc_ok M_X4_readNumber 2 := ⟨by decide +kernel, ⟨by decide +kernel, by decide +kernel⟩, by decide +kernel, by decide, mc_in 290 (by decide +kernel) (by decide +kernel), iniX4⟩
theorem st_X4_readNumber : Cond.instanceMethod M_X4_readNumber.1 ∈ mc_tbl := mc_in 289 (by decide +kernel) (by decide +kernel)
theorem se_X4_readNumber : Cond.selects RX4 M_X4_readNumber.1 M_X4_readNumber.1 ∈ mc_tbl := mc_in 4 (by decide +kernel) (by decide +kernel)
theorem ok_X4_readEnd : mc_ok M_X4_readEnd 0 := ⟨by decide +kernel, ⟨by decide +kernel, by decide +kernel⟩, by decide +kernel, by decide, mc_in 301 (by decide +kernel) (by decide +kernel), iniX4⟩
theorem st_X4_readEnd : Cond.instanceMethod M_X4_readEnd.1 ∈ mc_tbl := mc_in 300 (by decide +kernel) (by decide +kernel)
theorem se_X4_readEnd : Cond.selects RX4 M_X4_readEnd.1 M_X4_readEnd.1 ∈ mc_tbl := mc_in 5 (by decide +kernel) (by decide +kernel)
theorem ok_X4_skipBlanks : mc_ok M_X4_skipBlanks 0 := ⟨by decide +kernel, ⟨by decide +kernel, by decide +kernel⟩, by decide +kernel, by decide, mc_in 270 (by decide +kernel) (by decide +kernel), iniX4⟩
theorem st_X4_skipBlanks : Cond.instanceMethod M_X4_skipBlanks.1 ∈ mc_tbl := mc_in 269 (by decide +kernel) (by decide +kernel)
theorem se_X4_skipBlanks : Cond.selects RX4 M_X4_skipBlanks.1 M_X4_skipBlanks.1 ∈ mc_tbl := mc_in 0 (by decide +kernel) (by decide +kernel)
theorem ok_X4_next : mc_ok M_X4_next 0 := ⟨by decide +kernel, ⟨by decide +kernel, by decide +kernel⟩, by decide +kernel, by decide, mc_in 274 (by decide +kernel) (by decide +kernel), iniX4⟩
theorem st_X4_next : Cond.instanceMethod M_X4_next.1 ∈ mc_tbl := mc_in 273 (by decide +kernel) (by decide +kernel)
theorem se_X4_next : Cond.selects RX4 M_X4_next.1 M_X4_next.1 ∈ mc_tbl := mc_in 1 (by decide +kernel) (by decide +kernel)
theorem ok_X4_isFigure : mc_ok M_X4_isFigure 1 := ⟨by decide +kernel, ⟨by decide +kernel, by decide +kernel⟩, by decide +kernel, by decide, mc_in 293 (by decide +kernel) (by decide +kernel), iniX4⟩
theorem st_X4_isFigure : Cond.static M_X4_isFigure.1 ∈ mc_tbl := mc_in 292 (by decide +kernel) (by decide +kernel)
theorem ok_X5_init : mc_ok M_X5_init 0 := ⟨by decide +kernel, ⟨by decide +kernel, by decide +kernel⟩, by decide +kernel, by decide, mc_in 89 (by decide +kernel) (by decide +kernel), iniX5⟩
theorem st_X5_init : Cond.instanceMethod M_X5_init.1 ∈ mc_tbl := mc_in 88 (by decide +kernel) (by decide +kernel)
theorem ok_X5_type : mc_ok M_X5_type 1 := ⟨by decide +kernel, ⟨by decide +kernel, by decide +kernel⟩, by decide +kernel, by decide, mc_in 235 (by decide +kernel) (by decide +kernel), iniX5⟩
theorem st_X5_type : Cond.instanceMethod M_X5_type.1 ∈ mc_tbl := mc_in 233 (by decide +kernel) (by decide +kernel)
theorem se_X5_type : Cond.selects RX5 M_X5_type.1 M_X5_type.1 ∈ mc_tbl := mc_in 234 (by decide +kernel) (by decide +kernel)
theorem ok_X5_clear : mc_ok M_X5_clear 0 := ⟨by decide +kernel, ⟨by decide +kernel, by decide +kernel⟩, by decide +kernel, by decide, mc_in 250 (by decide +kernel) (by decide +kernel), iniX5⟩
theorem st_X5_clear : Cond.instanceMethod M_X5_clear.1 ∈ mc_tbl := mc_in 248 (by decide +kernel) (by decide +kernel)
theorem se_X5_clear : Cond.selects RX5 M_X5_clear.1 M_X5_clear.1 ∈ mc_tbl := mc_in 249 (by decide +kernel) (by decide +kernel)
theorem ok_X5_tells : mc_ok M_X5_tells 0 := ⟨by decide +kernel, ⟨by decide +kernel, by decide +kernel⟩, by decide +kernel, by decide, mc_in 258 (by decide +kernel) (by decide +kernel), iniX5⟩
theorem st_X5_tells : Cond.instanceMethod M_X5_tells.1 ∈ mc_tbl := mc_in 256 (by decide +kernel) (by decide +kernel)
theorem se_X5_tells : Cond.selects RX5 M_X5_tells.1 M_X5_tells.1 ∈ mc_tbl := mc_in 257 (by decide +kernel) (by decide +kernel)
theorem ok_X5_drops : mc_ok M_X5_drops 3 := ⟨by decide +kernel, ⟨by decide +kernel, by decide +kernel⟩, by decide +kernel, by decide, mc_in 353 (by decide +kernel) (by decide +kernel), iniX5⟩
theorem st_X5_drops : Cond.instanceMethod M_X5_drops.1 ∈ mc_tbl := mc_in 351 (by decide +kernel) (by decide +kernel)
theorem se_X5_drops : Cond.selects RX5 M_X5_drops.1 M_X5_drops.1 ∈ mc_tbl := mc_in 352 (by decide +kernel) (by decide +kernel)
theorem ok_X5_lifts : mc_ok M_X5_lifts 1 := ⟨by decide +kernel, ⟨by decide +kernel, by decide +kernel⟩, by decide +kernel, by decide, mc_in 395 (by decide +kernel) (by decide +kernel), iniX5⟩
theorem st_X5_lifts : Cond.instanceMethod M_X5_lifts.1 ∈ mc_tbl := mc_in 393 (by decide +kernel) (by decide +kernel)
theorem se_X5_lifts : Cond.selects RX5 M_X5_lifts.1 M_X5_lifts.1 ∈ mc_tbl := mc_in 394 (by decide +kernel) (by decide +kernel)
theorem ok_X5_weighs : mc_ok M_X5_weighs 2 := ⟨by decide +kernel, ⟨by decide +kernel, by decide +kernel⟩, by decide +kernel, by decide, mc_in 408 (by decide +kernel) (by decide +kernel), iniX5⟩
theorem st_X5_weighs : Cond.instanceMethod M_X5_weighs.1 ∈ mc_tbl := mc_in 406 (by decide +kernel) (by decide +kernel)
theorem se_X5_weighs : Cond.selects RX5 M_X5_weighs.1 M_X5_weighs.1 ∈ mc_tbl := mc_in 407 (by decide +kernel) (by decide +kernel)
theorem ok_X5_loads : mc_ok M_X5_loads 3 := ⟨by decide +kernel, ⟨by decide +kernel, by decide +kernel⟩, by decide +kernel, by decide, mc_in 414 (by decide +kernel) (by decide +kernel), iniX5⟩
theorem st_X5_loads : Cond.instanceMethod M_X5_loads.1 ∈ mc_tbl := mc_in 412 (by decide +kernel) (by decide +kernel)
theorem se_X5_loads : Cond.selects RX5 M_X5_loads.1 M_X5_loads.1 ∈ mc_tbl := mc_in 413 (by decide +kernel) (by decide +kernel)
theorem ok_X5_undo : mc_ok M_X5_undo 0 := ⟨by decide +kernel, ⟨by decide +kernel, by decide +kernel⟩, by decide +kernel, by decide, mc_in 422 (by decide +kernel) (by decide +kernel), iniX5⟩
theorem st_X5_undo : Cond.instanceMethod M_X5_undo.1 ∈ mc_tbl := mc_in 420 (by decide +kernel) (by decide +kernel)
theorem se_X5_undo : Cond.selects RX5 M_X5_undo.1 M_X5_undo.1 ∈ mc_tbl := mc_in 421 (by decide +kernel) (by decide +kernel)
theorem ok_X5_block : mc_ok M_X5_block 2 := ⟨by decide +kernel, ⟨by decide +kernel, by decide +kernel⟩, by decide +kernel, by decide, mc_in 430 (by decide +kernel) (by decide +kernel), iniX5⟩
theorem st_X5_block : Cond.instanceMethod M_X5_block.1 ∈ mc_tbl := mc_in 428 (by decide +kernel) (by decide +kernel)
theorem se_X5_block : Cond.selects RX5 M_X5_block.1 M_X5_block.1 ∈ mc_tbl := mc_in 429 (by decide +kernel) (by decide +kernel)
theorem ok_X5_contact : mc_ok M_X5_contact 2 := ⟨by decide +kernel, ⟨by decide +kernel, by decide +kernel⟩, by decide +kernel, by decide, mc_in 438 (by decide +kernel) (by decide +kernel), iniX5⟩
theorem st_X5_contact : Cond.instanceMethod M_X5_contact.1 ∈ mc_tbl := mc_in 436 (by decide +kernel) (by decide +kernel)
theorem se_X5_contact : Cond.selects RX5 M_X5_contact.1 M_X5_contact.1 ∈ mc_tbl := mc_in 437 (by decide +kernel) (by decide +kernel)
theorem ok_X5_rests : mc_ok M_X5_rests 0 := ⟨by decide +kernel, ⟨by decide +kernel, by decide +kernel⟩, by decide +kernel, by decide, mc_in 458 (by decide +kernel) (by decide +kernel), iniX5⟩
theorem st_X5_rests : Cond.instanceMethod M_X5_rests.1 ∈ mc_tbl := mc_in 456 (by decide +kernel) (by decide +kernel)
theorem se_X5_rests : Cond.selects RX5 M_X5_rests.1 M_X5_rests.1 ∈ mc_tbl := mc_in 457 (by decide +kernel) (by decide +kernel)
theorem ok_X5_bounds : mc_ok M_X5_bounds 2 := ⟨by decide +kernel, ⟨by decide +kernel, by decide +kernel⟩, by decide +kernel, by decide, mc_in 518 (by decide +kernel) (by decide +kernel), iniX5⟩
theorem st_X5_bounds : Cond.instanceMethod M_X5_bounds.1 ∈ mc_tbl := mc_in 516 (by decide +kernel) (by decide +kernel)
theorem se_X5_bounds : Cond.selects RX5 M_X5_bounds.1 M_X5_bounds.1 ∈ mc_tbl := mc_in 517 (by decide +kernel) (by decide +kernel)
theorem ok_X5_bears : mc_ok M_X5_bears 3 := ⟨by decide +kernel, ⟨by decide +kernel, by decide +kernel⟩, by decide +kernel, by decide, mc_in 559 (by decide +kernel) (by decide +kernel), iniX5⟩
theorem st_X5_bears : Cond.instanceMethod M_X5_bears.1 ∈ mc_tbl := mc_in 557 (by decide +kernel) (by decide +kernel)
theorem se_X5_bears : Cond.selects RX5 M_X5_bears.1 M_X5_bears.1 ∈ mc_tbl := mc_in 558 (by decide +kernel) (by decide +kernel)
theorem ok_X5_where : mc_ok M_X5_where 2 := ⟨by decide +kernel, ⟨by decide +kernel, by decide +kernel⟩, by decide +kernel, by decide, mc_in 569 (by decide +kernel) (by decide +kernel), iniX5⟩
theorem st_X5_where : Cond.instanceMethod M_X5_where.1 ∈ mc_tbl := mc_in 567 (by decide +kernel) (by decide +kernel)
theorem se_X5_where : Cond.selects RX5 M_X5_where.1 M_X5_where.1 ∈ mc_tbl := mc_in 568 (by decide +kernel) (by decide +kernel)
theorem ok_X5_weights : mc_ok M_X5_weights 1 := ⟨by decide +kernel, ⟨by decide +kernel, by decide +kernel⟩, by decide +kernel, by decide, mc_in 573 (by decide +kernel) (by decide +kernel), iniX5⟩
theorem st_X5_weights : Cond.instanceMethod M_X5_weights.1 ∈ mc_tbl := mc_in 571 (by decide +kernel) (by decide +kernel)
theorem se_X5_weights : Cond.selects RX5 M_X5_weights.1 M_X5_weights.1 ∈ mc_tbl := mc_in 572 (by decide +kernel) (by decide +kernel)
theorem ok_X5_key : mc_ok M_X5_key 0 := ⟨by decide +kernel, ⟨by decide +kernel, by decide +kernel⟩, by decide +kernel, by decide, mc_in 577 (by decide +kernel) (by decide +kernel), iniX5⟩
theorem st_X5_key : Cond.instanceMethod M_X5_key.1 ∈ mc_tbl := mc_in 575 (by decide +kernel) (by decide +kernel)
theorem se_X5_key : Cond.selects RX5 M_X5_key.1 M_X5_key.1 ∈ mc_tbl := mc_in 576 (by decide +kernel) (by decide +kernel)
theorem ok_X5_hold : mc_ok M_X5_hold 0 := ⟨by decide +kernel, ⟨by decide +kernel, by decide +kernel⟩, by decide +kernel, by decide, mc_in 585 (by decide +kernel) (by decide +kernel), iniX5⟩
theorem st_X5_hold : Cond.instanceMethod M_X5_hold.1 ∈ mc_tbl := mc_in 583 (by decide +kernel) (by decide +kernel)
theorem se_X5_hold : Cond.selects RX5 M_X5_hold.1 M_X5_hold.1 ∈ mc_tbl := mc_in 584 (by decide +kernel) (by decide +kernel)
theorem ok_X5_keep : mc_ok M_X5_keep 1 := ⟨by decide +kernel, ⟨by decide +kernel, by decide +kernel⟩, by decide +kernel, by decide, mc_in 595 (by decide +kernel) (by decide +kernel), iniX5⟩
theorem st_X5_keep : Cond.instanceMethod M_X5_keep.1 ∈ mc_tbl := mc_in 593 (by decide +kernel) (by decide +kernel)
theorem se_X5_keep : Cond.selects RX5 M_X5_keep.1 M_X5_keep.1 ∈ mc_tbl := mc_in 594 (by decide +kernel) (by decide +kernel)
theorem ok_X5_back : mc_ok M_X5_back 1 := ⟨by decide +kernel, ⟨by decide +kernel, by decide +kernel⟩, by decide +kernel, by decide, mc_in 599 (by decide +kernel) (by decide +kernel), iniX5⟩
theorem st_X5_back : Cond.instanceMethod M_X5_back.1 ∈ mc_tbl := mc_in 597 (by decide +kernel) (by decide +kernel)
theorem se_X5_back : Cond.selects RX5 M_X5_back.1 M_X5_back.1 ∈ mc_tbl := mc_in 598 (by decide +kernel) (by decide +kernel)
theorem ok_X5_count : mc_ok M_X5_count 1 := ⟨by decide +kernel, ⟨by decide +kernel, by decide +kernel⟩, by decide +kernel, by decide, mc_in 603 (by decide +kernel) (by decide +kernel), iniX5⟩
theorem st_X5_count : Cond.instanceMethod M_X5_count.1 ∈ mc_tbl := mc_in 601 (by decide +kernel) (by decide +kernel)
theorem se_X5_count : Cond.selects RX5 M_X5_count.1 M_X5_count.1 ∈ mc_tbl := mc_in 602 (by decide +kernel) (by decide +kernel)
theorem ok_X5_within : mc_ok M_X5_within 3 := ⟨by decide +kernel, ⟨by decide +kernel, by decide +kernel⟩, by decide +kernel, by decide, mc_in 238 (by decide +kernel) (by decide +kernel), iniX5⟩
theorem st_X5_within : Cond.static M_X5_within.1 ∈ mc_tbl := mc_in 237 (by decide +kernel) (by decide +kernel)
theorem ok_X5_isBlock : mc_ok M_X5_isBlock 2 := ⟨by decide +kernel, ⟨by decide +kernel, by decide +kernel⟩, by decide +kernel, by decide, mc_in 356 (by decide +kernel) (by decide +kernel), iniX5⟩
theorem st_X5_isBlock : Cond.static M_X5_isBlock.1 ∈ mc_tbl := mc_in 355 (by decide +kernel) (by decide +kernel)
theorem ok_X5_isSpot : mc_ok M_X5_isSpot 2 := ⟨by decide +kernel, ⟨by decide +kernel, by decide +kernel⟩, by decide +kernel, by decide, mc_in 418 (by decide +kernel) (by decide +kernel), iniX5⟩
theorem st_X5_isSpot : Cond.instanceMethod M_X5_isSpot.1 ∈ mc_tbl := mc_in 417 (by decide +kernel) (by decide +kernel)
theorem se_X5_isSpot : Cond.selects RX5 M_X5_isSpot.1 M_X5_isSpot.1 ∈ mc_tbl := mc_in 13 (by decide +kernel) (by decide +kernel)
theorem ok_X5_remember : mc_ok M_X5_remember 0 := ⟨by decide +kernel, ⟨by decide +kernel, by decide +kernel⟩, by decide +kernel, by decide, mc_in 332 (by decide +kernel) (by decide +kernel), iniX5⟩
theorem st_X5_remember : Cond.instanceMethod M_X5_remember.1 ∈ mc_tbl := mc_in 331 (by decide +kernel) (by decide +kernel)
theorem se_X5_remember : Cond.selects RX5 M_X5_remember.1 M_X5_remember.1 ∈ mc_tbl := mc_in 7 (by decide +kernel) (by decide +kernel)
theorem ok_X5_isBalanced : mc_ok M_X5_isBalanced 2 := ⟨by decide +kernel, ⟨by decide +kernel, by decide +kernel⟩, by decide +kernel, by decide, mc_in 462 (by decide +kernel) (by decide +kernel), iniX5⟩
theorem st_X5_isBalanced : Cond.instanceMethod M_X5_isBalanced.1 ∈ mc_tbl := mc_in 461 (by decide +kernel) (by decide +kernel)
theorem se_X5_isBalanced : Cond.selects RX5 M_X5_isBalanced.1 M_X5_isBalanced.1 ∈ mc_tbl := mc_in 14 (by decide +kernel) (by decide +kernel)
theorem ok_X5_restsWithout : mc_ok M_X5_restsWithout 1 := ⟨by decide +kernel, ⟨by decide +kernel, by decide +kernel⟩, by decide +kernel, by decide, mc_in 581 (by decide +kernel) (by decide +kernel), iniX5⟩
theorem st_X5_restsWithout : Cond.instanceMethod M_X5_restsWithout.1 ∈ mc_tbl := mc_in 580 (by decide +kernel) (by decide +kernel)
theorem se_X5_restsWithout : Cond.selects RX5 M_X5_restsWithout.1 M_X5_restsWithout.1 ∈ mc_tbl := mc_in 27 (by decide +kernel) (by decide +kernel)
theorem ok_X5_extreme : mc_ok M_X5_extreme 2 := ⟨by decide +kernel, ⟨by decide +kernel, by decide +kernel⟩, by decide +kernel, by decide, mc_in 523 (by decide +kernel) (by decide +kernel), iniX5⟩
theorem st_X5_extreme : Cond.instanceMethod M_X5_extreme.1 ∈ mc_tbl := mc_in 522 (by decide +kernel) (by decide +kernel)
theorem se_X5_extreme : Cond.selects RX5 M_X5_extreme.1 M_X5_extreme.1 ∈ mc_tbl := mc_in 24 (by decide +kernel) (by decide +kernel)
theorem ok_X6_init : mc_ok M_X6_init 0 := ⟨by decide +kernel, ⟨by decide +kernel, by decide +kernel⟩, by decide +kernel, by decide, mc_in 617 (by decide +kernel) (by decide +kernel), iniX6⟩
theorem st_X6_init : Cond.instanceMethod M_X6_init.1 ∈ mc_tbl := mc_in 616 (by decide +kernel) (by decide +kernel)
theorem ok_X6_within : mc_ok M_X6_within 3 := ⟨by decide +kernel, ⟨by decide +kernel, by decide +kernel⟩, by decide +kernel, by decide, mc_in 707 (by decide +kernel) (by decide +kernel), iniX6⟩
theorem st_X6_within : Cond.static M_X6_within.1 ∈ mc_tbl := mc_in 706 (by decide +kernel) (by decide +kernel)
theorem ok_X6_has : mc_ok M_X6_has 2 := ⟨by decide +kernel, ⟨by decide +kernel, by decide +kernel⟩, by decide +kernel, by decide, mc_in 817 (by decide +kernel) (by decide +kernel), iniX6⟩
theorem st_X6_has : Cond.static M_X6_has.1 ∈ mc_tbl := mc_in 816 (by decide +kernel) (by decide +kernel)
theorem ok_X6_ones : mc_ok M_X6_ones 1 := ⟨by decide +kernel, ⟨by decide +kernel, by decide +kernel⟩, by decide +kernel, by decide, mc_in 885 (by decide +kernel) (by decide +kernel), iniX6⟩
theorem st_X6_ones : Cond.static M_X6_ones.1 ∈ mc_tbl := mc_in 884 (by decide +kernel) (by decide +kernel)
theorem ok_X6_many : mc_ok M_X6_many 0 := ⟨by decide +kernel, ⟨by decide +kernel, by decide +kernel⟩, by decide +kernel, by decide, mc_in 778 (by decide +kernel) (by decide +kernel), iniX6⟩
theorem st_X6_many : Cond.instanceMethod M_X6_many.1 ∈ mc_tbl := mc_in 777 (by decide +kernel) (by decide +kernel)
theorem se_X6_many : Cond.selects RX6 M_X6_many.1 M_X6_many.1 ∈ mc_tbl := mc_in 41 (by decide +kernel) (by decide +kernel)
theorem ok_X6_isBlock : mc_ok M_X6_isBlock 1 := ⟨by decide +kernel, ⟨by decide +kernel, by decide +kernel⟩, by decide +kernel, by decide, mc_in 810 (by decide +kernel) (by decide +kernel), iniX6⟩
theorem st_X6_isBlock : Cond.instanceMethod M_X6_isBlock.1 ∈ mc_tbl := mc_in 809 (by decide +kernel) (by decide +kernel)
theorem se_X6_isBlock : Cond.selects RX6 M_X6_isBlock.1 M_X6_isBlock.1 ∈ mc_tbl := mc_in 48 (by decide +kernel) (by decide +kernel)
theorem ok_X6_get : mc_ok M_X6_get 2 := ⟨by decide +kernel, ⟨by decide +kernel, by decide +kernel⟩, by decide +kernel, by decide, mc_in 755 (by decide +kernel) (by decide +kernel), iniX6⟩
theorem st_X6_get : Cond.instanceMethod M_X6_get.1 ∈ mc_tbl := mc_in 754 (by decide +kernel) (by decide +kernel)
theorem se_X6_get : Cond.selects RX6 M_X6_get.1 M_X6_get.1 ∈ mc_tbl := mc_in 37 (by decide +kernel) (by decide +kernel)
theorem ok_X6_end : mc_ok M_X6_end 1 := ⟨by decide +kernel, ⟨by decide +kernel, by decide +kernel⟩, by decide +kernel, by decide, mc_in 798 (by decide +kernel) (by decide +kernel), iniX6⟩
theorem st_X6_end : Cond.instanceMethod M_X6_end.1 ∈ mc_tbl := mc_in 797 (by decide +kernel) (by decide +kernel)
theorem se_X6_end : Cond.selects RX6 M_X6_end.1 M_X6_end.1 ∈ mc_tbl := mc_in 46 (by decide +kernel) (by decide +kernel)
theorem ok_X6_fits : mc_ok M_X6_fits 3 := ⟨by decide +kernel, ⟨by decide +kernel, by decide +kernel⟩, by decide +kernel, by decide, mc_in 770 (by decide +kernel) (by decide +kernel), iniX6⟩
theorem st_X6_fits : Cond.static M_X6_fits.1 ∈ mc_tbl := mc_in 769 (by decide +kernel) (by decide +kernel)
theorem ok_X6_appends : mc_ok M_X6_appends 3 := ⟨by decide +kernel, ⟨by decide +kernel, by decide +kernel⟩, by decide +kernel, by decide, mc_in 747 (by decide +kernel) (by decide +kernel), iniX6⟩
theorem st_X6_appends : Cond.instanceMethod M_X6_appends.1 ∈ mc_tbl := mc_in 746 (by decide +kernel) (by decide +kernel)
theorem se_X6_appends : Cond.selects RX6 M_X6_appends.1 M_X6_appends.1 ∈ mc_tbl := mc_in 35 (by decide +kernel) (by decide +kernel)
theorem ok_X6_removes : mc_ok M_X6_removes 1 := ⟨by decide +kernel, ⟨by decide +kernel, by decide +kernel⟩, by decide +kernel, by decide, mc_in 821 (by decide +kernel) (by decide +kernel), iniX6⟩
theorem st_X6_removes : Cond.instanceMethod M_X6_removes.1 ∈ mc_tbl := mc_in 820 (by decide +kernel) (by decide +kernel)
theorem se_X6_removes : Cond.selects RX6 M_X6_removes.1 M_X6_removes.1 ∈ mc_tbl := mc_in 50 (by decide +kernel) (by decide +kernel)
theorem ok_X6_from : mc_ok M_X6_from 2 := ⟨by decide +kernel, ⟨by decide +kernel, by decide +kernel⟩, by decide +kernel, by decide, mc_in 790 (by decide +kernel) (by decide +kernel), iniX6⟩
theorem st_X6_from : Cond.instanceMethod M_X6_from.1 ∈ mc_tbl := mc_in 789 (by decide +kernel) (by decide +kernel)
theorem se_X6_from : Cond.selects RX6 M_X6_from.1 M_X6_from.1 ∈ mc_tbl := mc_in 44 (by decide +kernel) (by decide +kernel)
theorem ok_X6_to : mc_ok M_X6_to 2 := ⟨by decide +kernel, ⟨by decide +kernel, by decide +kernel⟩, by decide +kernel, by decide, mc_in 794 (by decide +kernel) (by decide +kernel), iniX6⟩
theorem st_X6_to : Cond.instanceMethod M_X6_to.1 ∈ mc_tbl := mc_in 793 (by decide +kernel) (by decide +kernel)
theorem se_X6_to : Cond.selects RX6 M_X6_to.1 M_X6_to.1 ∈ mc_tbl := mc_in 45 (by decide +kernel) (by decide +kernel)
theorem ok_X6_doOverlap : mc_ok M_X6_doOverlap 2 := ⟨by decide +kernel, ⟨by decide +kernel, by decide +kernel⟩, by decide +kernel, by decide, mc_in 786 (by decide +kernel) (by decide +kernel), iniX6⟩
theorem st_X6_doOverlap : Cond.instanceMethod M_X6_doOverlap.1 ∈ mc_tbl := mc_in 785 (by decide +kernel) (by decide +kernel)
theorem se_X6_doOverlap : Cond.selects RX6 M_X6_doOverlap.1 M_X6_doOverlap.1 ∈ mc_tbl := mc_in 43 (by decide +kernel) (by decide +kernel)
theorem ok_X6_touches : mc_ok M_X6_touches 3 := ⟨by decide +kernel, ⟨by decide +kernel, by decide +kernel⟩, by decide +kernel, by decide, mc_in 802 (by decide +kernel) (by decide +kernel), iniX6⟩
theorem st_X6_touches : Cond.instanceMethod M_X6_touches.1 ∈ mc_tbl := mc_in 801 (by decide +kernel) (by decide +kernel)
theorem se_X6_touches : Cond.selects RX6 M_X6_touches.1 M_X6_touches.1 ∈ mc_tbl := mc_in 47 (by decide +kernel) (by decide +kernel)
theorem ok_X6_layBlock : mc_ok M_X6_layBlock 1 := ⟨by decide +kernel, ⟨by decide +kernel, by decide +kernel⟩, by decide +kernel, by decide, mc_in 782 (by decide +kernel) (by decide +kernel), iniX6⟩
theorem st_X6_layBlock : Cond.instanceMethod M_X6_layBlock.1 ∈ mc_tbl := mc_in 781 (by decide +kernel) (by decide +kernel)
theorem se_X6_layBlock : Cond.selects RX6 M_X6_layBlock.1 M_X6_layBlock.1 ∈ mc_tbl := mc_in 42 (by decide +kernel) (by decide +kernel)
theorem ok_X6_layAll : mc_ok M_X6_layAll 0 := ⟨by decide +kernel, ⟨by decide +kernel, by decide +kernel⟩, by decide +kernel, by decide, mc_in 774 (by decide +kernel) (by decide +kernel), iniX6⟩
theorem st_X6_layAll : Cond.instanceMethod M_X6_layAll.1 ∈ mc_tbl := mc_in 773 (by decide +kernel) (by decide +kernel)
theorem se_X6_layAll : Cond.selects RX6 M_X6_layAll.1 M_X6_layAll.1 ∈ mc_tbl := mc_in 40 (by decide +kernel) (by decide +kernel)
theorem ok_X6_above : mc_ok M_X6_above 1 := ⟨by decide +kernel, ⟨by decide +kernel, by decide +kernel⟩, by decide +kernel, by decide, mc_in 814 (by decide +kernel) (by decide +kernel), iniX6⟩
theorem st_X6_above : Cond.instanceMethod M_X6_above.1 ∈ mc_tbl := mc_in 813 (by decide +kernel) (by decide +kernel)
theorem se_X6_above : Cond.selects RX6 M_X6_above.1 M_X6_above.1 ∈ mc_tbl := mc_in 49 (by decide +kernel) (by decide +kernel)
theorem ok_X6_layRow : mc_ok M_X6_layRow 5 := ⟨by decide +kernel, ⟨by decide +kernel, by decide +kernel⟩, by decide +kernel, by decide, mc_in 877 (by decide +kernel) (by decide +kernel), iniX6⟩
theorem st_X6_layRow : Cond.instanceMethod M_X6_layRow.1 ∈ mc_tbl := mc_in 876 (by decide +kernel) (by decide +kernel)
theorem se_X6_layRow : Cond.selects RX6 M_X6_layRow.1 M_X6_layRow.1 ∈ mc_tbl := mc_in 58 (by decide +kernel) (by decide +kernel)
theorem ok_X6_layRows : mc_ok M_X6_layRows 4 := ⟨by decide +kernel, ⟨by decide +kernel, by decide +kernel⟩, by decide +kernel, by decide, mc_in 873 (by decide +kernel) (by decide +kernel), iniX6⟩
theorem st_X6_layRows : Cond.instanceMethod M_X6_layRows.1 ∈ mc_tbl := mc_in 872 (by decide +kernel) (by decide +kernel)
theorem se_X6_layRows : Cond.selects RX6 M_X6_layRows.1 M_X6_layRows.1 ∈ mc_tbl := mc_in 57 (by decide +kernel) (by decide +kernel)
theorem ok_X6_swaps : mc_ok M_X6_swaps 2 := ⟨by decide +kernel, ⟨by decide +kernel, by decide +kernel⟩, by decide +kernel, by decide, mc_in 901 (by decide +kernel) (by decide +kernel), iniX6⟩
theorem st_X6_swaps : Cond.instanceMethod M_X6_swaps.1 ∈ mc_tbl := mc_in 900 (by decide +kernel) (by decide +kernel)
theorem se_X6_swaps : Cond.selects RX6 M_X6_swaps.1 M_X6_swaps.1 ∈ mc_tbl := mc_in 63 (by decide +kernel) (by decide +kernel)
theorem ok_X6_clears : mc_ok M_X6_clears 3 := ⟨by decide +kernel, ⟨by decide +kernel, by decide +kernel⟩, by decide +kernel, by decide, mc_in 905 (by decide +kernel) (by decide +kernel), iniX6⟩
theorem st_X6_clears : Cond.instanceMethod M_X6_clears.1 ∈ mc_tbl := mc_in 904 (by decide +kernel) (by decide +kernel)
theorem se_X6_clears : Cond.selects RX6 M_X6_clears.1 M_X6_clears.1 ∈ mc_tbl := mc_in 64 (by decide +kernel) (by decide +kernel)
theorem ok_X6_pivot : mc_ok M_X6_pivot 1 := ⟨by decide +kernel, ⟨by decide +kernel, by decide +kernel⟩, by decide +kernel, by decide, mc_in 897 (by decide +kernel) (by decide +kernel), iniX6⟩
theorem st_X6_pivot : Cond.instanceMethod M_X6_pivot.1 ∈ mc_tbl := mc_in 896 (by decide +kernel) (by decide +kernel)
theorem se_X6_pivot : Cond.selects RX6 M_X6_pivot.1 M_X6_pivot.1 ∈ mc_tbl := mc_in 62 (by decide +kernel) (by decide +kernel)
theorem ok_X6_fills : mc_ok M_X6_fills 1 := ⟨by decide +kernel, ⟨by decide +kernel, by decide +kernel⟩, by decide +kernel, by decide, mc_in 893 (by decide +kernel) (by decide +kernel), iniX6⟩
theorem st_X6_fills : Cond.instanceMethod M_X6_fills.1 ∈ mc_tbl := mc_in 892 (by decide +kernel) (by decide +kernel)
theorem se_X6_fills : Cond.selects RX6 M_X6_fills.1 M_X6_fills.1 ∈ mc_tbl := mc_in 61 (by decide +kernel) (by decide +kernel)
theorem ok_X6_solves : mc_ok M_X6_solves 1 := ⟨by decide +kernel, ⟨by decide +kernel, by decide +kernel⟩, by decide +kernel, by decide, mc_in 889 (by decide +kernel) (by decide +kernel), iniX6⟩
theorem st_X6_solves : Cond.instanceMethod M_X6_solves.1 ∈ mc_tbl := mc_in 888 (by decide +kernel) (by decide +kernel)
theorem se_X6_solves : Cond.selects RX6 M_X6_solves.1 M_X6_solves.1 ∈ mc_tbl := mc_in 60 (by decide +kernel) (by decide +kernel)
theorem ok_X6_divisor : mc_ok M_X6_divisor 0 := ⟨by decide +kernel, ⟨by decide +kernel, by decide +kernel⟩, by decide +kernel, by decide, mc_in 913 (by decide +kernel) (by decide +kernel), iniX6⟩
theorem st_X6_divisor : Cond.instanceMethod M_X6_divisor.1 ∈ mc_tbl := mc_in 912 (by decide +kernel) (by decide +kernel)
theorem se_X6_divisor : Cond.selects RX6 M_X6_divisor.1 M_X6_divisor.1 ∈ mc_tbl := mc_in 66 (by decide +kernel) (by decide +kernel)
theorem ok_X6_isNoneBelow : mc_ok M_X6_isNoneBelow 0 := ⟨by decide +kernel, ⟨by decide +kernel, by decide +kernel⟩, by decide +kernel, by decide, mc_in 909 (by decide +kernel) (by decide +kernel), iniX6⟩
theorem st_X6_isNoneBelow : Cond.instanceMethod M_X6_isNoneBelow.1 ∈ mc_tbl := mc_in 908 (by decide +kernel) (by decide +kernel)
theorem se_X6_isNoneBelow : Cond.selects RX6 M_X6_isNoneBelow.1 M_X6_isNoneBelow.1 ∈ mc_tbl := mc_in 65 (by decide +kernel) (by decide +kernel)
theorem ok_X6_solved : mc_ok M_X6_solved 2 := ⟨by decide +kernel, ⟨by decide +kernel, by decide +kernel⟩, by decide +kernel, by decide, mc_in 917 (by decide +kernel) (by decide +kernel), iniX6⟩
theorem st_X6_solved : Cond.instanceMethod M_X6_solved.1 ∈ mc_tbl := mc_in 916 (by decide +kernel) (by decide +kernel)
theorem se_X6_solved : Cond.selects RX6 M_X6_solved.1 M_X6_solved.1 ∈ mc_tbl := mc_in 67 (by decide +kernel) (by decide +kernel)
theorem ok_X6_meets : mc_ok M_X6_meets 2 := ⟨by decide +kernel, ⟨by decide +kernel, by decide +kernel⟩, by decide +kernel, by decide, mc_in 921 (by decide +kernel) (by decide +kernel), iniX6⟩
theorem st_X6_meets : Cond.instanceMethod M_X6_meets.1 ∈ mc_tbl := mc_in 920 (by decide +kernel) (by decide +kernel)
theorem se_X6_meets : Cond.selects RX6 M_X6_meets.1 M_X6_meets.1 ∈ mc_tbl := mc_in 68 (by decide +kernel) (by decide +kernel)
theorem ok_X6_seeks : mc_ok M_X6_seeks 1 := ⟨by decide +kernel, ⟨by decide +kernel, by decide +kernel⟩, by decide +kernel, by decide, mc_in 882 (by decide +kernel) (by decide +kernel), iniX6⟩
theorem st_X6_seeks : Cond.instanceMethod M_X6_seeks.1 ∈ mc_tbl := mc_in 881 (by decide +kernel) (by decide +kernel)
theorem se_X6_seeks : Cond.selects RX6 M_X6_seeks.1 M_X6_seeks.1 ∈ mc_tbl := mc_in 59 (by decide +kernel) (by decide +kernel)
theorem ok_X6_all : mc_ok M_X6_all 0 := ⟨by decide +kernel, ⟨by decide +kernel, by decide +kernel⟩, by decide +kernel, by decide, mc_in 865 (by decide +kernel) (by decide +kernel), iniX6⟩
theorem st_X6_all : Cond.instanceMethod M_X6_all.1 ∈ mc_tbl := mc_in 864 (by decide +kernel) (by decide +kernel)
theorem se_X6_all : Cond.selects RX6 M_X6_all.1 M_X6_all.1 ∈ mc_tbl := mc_in 55 (by decide +kernel) (by decide +kernel)
theorem ok_X6_canBalance : mc_ok M_X6_canBalance 1 := ⟨by decide +kernel, ⟨by decide +kernel, by decide +kernel⟩, by decide +kernel, by decide, mc_in 869 (by decide +kernel) (by decide +kernel), iniX6⟩
theorem st_X6_canBalance : Cond.instanceMethod M_X6_canBalance.1 ∈ mc_tbl := mc_in 868 (by decide +kernel) (by decide +kernel)
theorem se_X6_canBalance : Cond.selects RX6 M_X6_canBalance.1 M_X6_canBalance.1 ∈ mc_tbl := mc_in 56 (by decide +kernel) (by decide +kernel)
theorem ok_X6_isResting : mc_ok M_X6_isResting 0 := ⟨by decide +kernel, ⟨by decide +kernel, by decide +kernel⟩, by decide +kernel, by decide, mc_in 861 (by decide +kernel) (by decide +kernel), iniX6⟩
theorem st_X6_isResting : Cond.instanceMethod M_X6_isResting.1 ∈ mc_tbl := mc_in 860 (by decide +kernel) (by decide +kernel)
theorem se_X6_isResting : Cond.selects RX6 M_X6_isResting.1 M_X6_isResting.1 ∈ mc_tbl := mc_in 54 (by decide +kernel) (by decide +kernel)
theorem ok_X6_common : mc_ok M_X6_common 2 := ⟨by decide +kernel, ⟨by decide +kernel, by decide +kernel⟩, by decide +kernel, by decide, mc_in 932 (by decide +kernel) (by decide +kernel), iniX6⟩
theorem st_X6_common : Cond.static M_X6_common.1 ∈ mc_tbl := mc_in 931 (by decide +kernel) (by decide +kernel)
theorem ok_X6_told : mc_ok M_X6_told 1 := ⟨by decide +kernel, ⟨by decide +kernel, by decide +kernel⟩, by decide +kernel, by decide, mc_in 929 (by decide +kernel) (by decide +kernel), iniX6⟩
theorem st_X6_told : Cond.instanceMethod M_X6_told.1 ∈ mc_tbl := mc_in 928 (by decide +kernel) (by decide +kernel)
theorem se_X6_told : Cond.selects RX6 M_X6_told.1 M_X6_told.1 ∈ mc_tbl := mc_in 69 (by decide +kernel) (by decide +kernel)
theorem ok_X6_skips : mc_ok M_X6_skips 0 := ⟨by decide +kernel, ⟨by decide +kernel, by decide +kernel⟩, by decide +kernel, by decide, mc_in 727 (by decide +kernel) (by decide +kernel), iniX6⟩
theorem st_X6_skips : Cond.instanceMethod M_X6_skips.1 ∈ mc_tbl := mc_in 726 (by decide +kernel) (by decide +kernel)
theorem se_X6_skips : Cond.selects RX6 M_X6_skips.1 M_X6_skips.1 ∈ mc_tbl := mc_in 30 (by decide +kernel) (by decide +kernel)
theorem ok_X6_isFigure : mc_ok M_X6_isFigure 0 := ⟨by decide +kernel, ⟨by decide +kernel, by decide +kernel⟩, by decide +kernel, by decide, mc_in 743 (by decide +kernel) (by decide +kernel), iniX6⟩
theorem st_X6_isFigure : Cond.instanceMethod M_X6_isFigure.1 ∈ mc_tbl := mc_in 742 (by decide +kernel) (by decide +kernel)
theorem se_X6_isFigure : Cond.selects RX6 M_X6_isFigure.1 M_X6_isFigure.1 ∈ mc_tbl := mc_in 34 (by decide +kernel) (by decide +kernel)
theorem ok_X6_passes : mc_ok M_X6_passes 1 := ⟨by decide +kernel, ⟨by decide +kernel, by decide +kernel⟩, by decide +kernel, by decide, mc_in 731 (by decide +kernel) (by decide +kernel), iniX6⟩
theorem st_X6_passes : Cond.instanceMethod M_X6_passes.1 ∈ mc_tbl := mc_in 730 (by decide +kernel) (by decide +kernel)
theorem se_X6_passes : Cond.selects RX6 M_X6_passes.1 M_X6_passes.1 ∈ mc_tbl := mc_in 31 (by decide +kernel) (by decide +kernel)
theorem ok_X6_number : mc_ok M_X6_number 2 := ⟨by decide +kernel, ⟨by decide +kernel, by decide +kernel⟩, by decide +kernel, by decide, mc_in 739 (by decide +kernel) (by decide +kernel), iniX6⟩
theorem st_X6_number : Cond.instanceMethod M_X6_number.1 ∈ mc_tbl := mc_in 738 (by decide +kernel) (by decide +kernel)
theorem se_X6_number : Cond.selects RX6 M_X6_number.1 M_X6_number.1 ∈ mc_tbl := mc_in 33 (by decide +kernel) (by decide +kernel)
theorem ok_X6_readsBlock : mc_ok M_X6_readsBlock 0 := ⟨by decide +kernel, ⟨by decide +kernel, by decide +kernel⟩, by decide +kernel, by decide, mc_in 735 (by decide +kernel) (by decide +kernel), iniX6⟩
theorem st_X6_readsBlock : Cond.instanceMethod M_X6_readsBlock.1 ∈ mc_tbl := mc_in 734 (by decide +kernel) (by decide +kernel)
theorem se_X6_readsBlock : Cond.selects RX6 M_X6_readsBlock.1 M_X6_readsBlock.1 ∈ mc_tbl := mc_in 32 (by decide +kernel) (by decide +kernel)
theorem ok_X6_readsLoad : mc_ok M_X6_readsLoad 0 := ⟨by decide +kernel, ⟨by decide +kernel, by decide +kernel⟩, by decide +kernel, by decide, mc_in 751 (by decide +kernel) (by decide +kernel), iniX6⟩
theorem st_X6_readsLoad : Cond.instanceMethod M_X6_readsLoad.1 ∈ mc_tbl := mc_in 750 (by decide +kernel) (by decide +kernel)
theorem se_X6_readsLoad : Cond.selects RX6 M_X6_readsLoad.1 M_X6_readsLoad.1 ∈ mc_tbl := mc_in 36 (by decide +kernel) (by decide +kernel)
theorem ok_X6_reads : mc_ok M_X6_reads 0 := ⟨by decide +kernel, ⟨by decide +kernel, by decide +kernel⟩, by decide +kernel, by decide, mc_in 723 (by decide +kernel) (by decide +kernel), iniX6⟩
theorem st_X6_reads : Cond.instanceMethod M_X6_reads.1 ∈ mc_tbl := mc_in 722 (by decide +kernel) (by decide +kernel)
theorem se_X6_reads : Cond.selects RX6 M_X6_reads.1 M_X6_reads.1 ∈ mc_tbl := mc_in 29 (by decide +kernel) (by decide +kernel)
theorem ok_X6_type : mc_ok M_X6_type 1 := ⟨by decide +kernel, ⟨by decide +kernel, by decide +kernel⟩, by decide +kernel, by decide, mc_in 704 (by decide +kernel) (by decide +kernel), iniX6⟩
theorem st_X6_type : Cond.instanceMethod M_X6_type.1 ∈ mc_tbl := mc_in 702 (by decide +kernel) (by decide +kernel)
theorem se_X6_type : Cond.selects RX6 M_X6_type.1 M_X6_type.1 ∈ mc_tbl := mc_in 703 (by decide +kernel) (by decide +kernel)
theorem ok_X6_clear : mc_ok M_X6_clear 0 := ⟨by decide +kernel, ⟨by decide +kernel, by decide +kernel⟩, by decide +kernel, by decide, mc_in 711 (by decide +kernel) (by decide +kernel), iniX6⟩
theorem st_X6_clear : Cond.instanceMethod M_X6_clear.1 ∈ mc_tbl := mc_in 709 (by decide +kernel) (by decide +kernel)
theorem se_X6_clear : Cond.selects RX6 M_X6_clear.1 M_X6_clear.1 ∈ mc_tbl := mc_in 710 (by decide +kernel) (by decide +kernel)
theorem ok_X6_lays : mc_ok M_X6_lays 2 := ⟨by decide +kernel, ⟨by decide +kernel, by decide +kernel⟩, by decide +kernel, by decide, mc_in 719 (by decide +kernel) (by decide +kernel), iniX6⟩
theorem st_X6_lays : Cond.instanceMethod M_X6_lays.1 ∈ mc_tbl := mc_in 718 (by decide +kernel) (by decide +kernel)
theorem se_X6_lays : Cond.selects RX6 M_X6_lays.1 M_X6_lays.1 ∈ mc_tbl := mc_in 28 (by decide +kernel) (by decide +kernel)
theorem ok_X6_takes : mc_ok M_X6_takes 2 := ⟨by decide +kernel, ⟨by decide +kernel, by decide +kernel⟩, by decide +kernel, by decide, mc_in 759 (by decide +kernel) (by decide +kernel), iniX6⟩
theorem st_X6_takes : Cond.instanceMethod M_X6_takes.1 ∈ mc_tbl := mc_in 758 (by decide +kernel) (by decide +kernel)
theorem se_X6_takes : Cond.selects RX6 M_X6_takes.1 M_X6_takes.1 ∈ mc_tbl := mc_in 38 (by decide +kernel) (by decide +kernel)
theorem ok_X6_keeps : mc_ok M_X6_keeps 0 := ⟨by decide +kernel, ⟨by decide +kernel, by decide +kernel⟩, by decide +kernel, by decide, mc_in 763 (by decide +kernel) (by decide +kernel), iniX6⟩
theorem st_X6_keeps : Cond.instanceMethod M_X6_keeps.1 ∈ mc_tbl := mc_in 762 (by decide +kernel) (by decide +kernel)
theorem se_X6_keeps : Cond.selects RX6 M_X6_keeps.1 M_X6_keeps.1 ∈ mc_tbl := mc_in 39 (by decide +kernel) (by decide +kernel)
theorem ok_X6_tells : mc_ok M_X6_tells 0 := ⟨by decide +kernel, ⟨by decide +kernel, by decide +kernel⟩, by decide +kernel, by decide, mc_in 715 (by decide +kernel) (by decide +kernel), iniX6⟩
theorem st_X6_tells : Cond.instanceMethod M_X6_tells.1 ∈ mc_tbl := mc_in 713 (by decide +kernel) (by decide +kernel)
theorem se_X6_tells : Cond.selects RX6 M_X6_tells.1 M_X6_tells.1 ∈ mc_tbl := mc_in 714 (by decide +kernel) (by decide +kernel)
theorem ok_X6_drops : mc_ok M_X6_drops 3 := ⟨by decide +kernel, ⟨by decide +kernel, by decide +kernel⟩, by decide +kernel, by decide, mc_in 767 (by decide +kernel) (by decide +kernel), iniX6⟩
theorem st_X6_drops : Cond.instanceMethod M_X6_drops.1 ∈ mc_tbl := mc_in 765 (by decide +kernel) (by decide +kernel)
theorem se_X6_drops : Cond.selects RX6 M_X6_drops.1 M_X6_drops.1 ∈ mc_tbl := mc_in 766 (by decide +kernel) (by decide +kernel)
theorem ok_X6_lifts : mc_ok M_X6_lifts 1 := ⟨by decide +kernel, ⟨by decide +kernel, by decide +kernel⟩, by decide +kernel, by decide, mc_in 806 (by decide +kernel) (by decide +kernel), iniX6⟩
theorem st_X6_lifts : Cond.instanceMethod M_X6_lifts.1 ∈ mc_tbl := mc_in 804 (by decide +kernel) (by decide +kernel)
theorem se_X6_lifts : Cond.selects RX6 M_X6_lifts.1 M_X6_lifts.1 ∈ mc_tbl := mc_in 805 (by decide +kernel) (by decide +kernel)
theorem ok_X6_weighs : mc_ok M_X6_weighs 2 := ⟨by decide +kernel, ⟨by decide +kernel, by decide +kernel⟩, by decide +kernel, by decide, mc_in 825 (by decide +kernel) (by decide +kernel), iniX6⟩
theorem st_X6_weighs : Cond.instanceMethod M_X6_weighs.1 ∈ mc_tbl := mc_in 823 (by decide +kernel) (by decide +kernel)
theorem se_X6_weighs : Cond.selects RX6 M_X6_weighs.1 M_X6_weighs.1 ∈ mc_tbl := mc_in 824 (by decide +kernel) (by decide +kernel)
theorem ok_X6_isSpot : mc_ok M_X6_isSpot 2 := ⟨by decide +kernel, ⟨by decide +kernel, by decide +kernel⟩, by decide +kernel, by decide, mc_in 833 (by decide +kernel) (by decide +kernel), iniX6⟩
theorem st_X6_isSpot : Cond.instanceMethod M_X6_isSpot.1 ∈ mc_tbl := mc_in 832 (by decide +kernel) (by decide +kernel)
theorem se_X6_isSpot : Cond.selects RX6 M_X6_isSpot.1 M_X6_isSpot.1 ∈ mc_tbl := mc_in 51 (by decide +kernel) (by decide +kernel)
theorem ok_X6_loads : mc_ok M_X6_loads 3 := ⟨by decide +kernel, ⟨by decide +kernel, by decide +kernel⟩, by decide +kernel, by decide, mc_in 829 (by decide +kernel) (by decide +kernel), iniX6⟩
theorem st_X6_loads : Cond.instanceMethod M_X6_loads.1 ∈ mc_tbl := mc_in 827 (by decide +kernel) (by decide +kernel)
theorem se_X6_loads : Cond.selects RX6 M_X6_loads.1 M_X6_loads.1 ∈ mc_tbl := mc_in 828 (by decide +kernel) (by decide +kernel)
theorem ok_X6_undo : mc_ok M_X6_undo 0 := ⟨by decide +kernel, ⟨by decide +kernel, by decide +kernel⟩, by decide +kernel, by decide, mc_in 837 (by decide +kernel) (by decide +kernel), iniX6⟩
theorem st_X6_undo : Cond.instanceMethod M_X6_undo.1 ∈ mc_tbl := mc_in 835 (by decide +kernel) (by decide +kernel)
theorem se_X6_undo : Cond.selects RX6 M_X6_undo.1 M_X6_undo.1 ∈ mc_tbl := mc_in 836 (by decide +kernel) (by decide +kernel)
theorem ok_X6_tellBlock : mc_ok M_X6_tellBlock 2 := ⟨by decide +kernel, ⟨by decide +kernel, by decide +kernel⟩, by decide +kernel, by decide, mc_in 845 (by decide +kernel) (by decide +kernel), iniX6⟩
theorem st_X6_tellBlock : Cond.instanceMethod M_X6_tellBlock.1 ∈ mc_tbl := mc_in 844 (by decide +kernel) (by decide +kernel)
theorem se_X6_tellBlock : Cond.selects RX6 M_X6_tellBlock.1 M_X6_tellBlock.1 ∈ mc_tbl := mc_in 52 (by decide +kernel) (by decide +kernel)
theorem ok_X6_block : mc_ok M_X6_block 2 := ⟨by decide +kernel, ⟨by decide +kernel, by decide +kernel⟩, by decide +kernel, by decide, mc_in 841 (by decide +kernel) (by decide +kernel), iniX6⟩
theorem st_X6_block : Cond.instanceMethod M_X6_block.1 ∈ mc_tbl := mc_in 839 (by decide +kernel) (by decide +kernel)
theorem se_X6_block : Cond.selects RX6 M_X6_block.1 M_X6_block.1 ∈ mc_tbl := mc_in 840 (by decide +kernel) (by decide +kernel)
theorem ok_X6_isContact : mc_ok M_X6_isContact 1 := ⟨by decide +kernel, ⟨by decide +kernel, by decide +kernel⟩, by decide +kernel, by decide, mc_in 853 (by decide +kernel) (by decide +kernel), iniX6⟩
theorem st_X6_isContact : Cond.instanceMethod M_X6_isContact.1 ∈ mc_tbl := mc_in 852 (by decide +kernel) (by decide +kernel)
theorem se_X6_isContact : Cond.selects RX6 M_X6_isContact.1 M_X6_isContact.1 ∈ mc_tbl := mc_in 53 (by decide +kernel) (by decide +kernel)
theorem ok_X6_contact : mc_ok M_X6_contact 2 := ⟨by decide +kernel, ⟨by decide +kernel, by decide +kernel⟩, by decide +kernel, by decide, mc_in 849 (by decide +kernel) (by decide +kernel), iniX6⟩
theorem st_X6_contact : Cond.instanceMethod M_X6_contact.1 ∈ mc_tbl := mc_in 847 (by decide +kernel) (by decide +kernel)
theorem se_X6_contact : Cond.selects RX6 M_X6_contact.1 M_X6_contact.1 ∈ mc_tbl := mc_in 848 (by decide +kernel) (by decide +kernel)
theorem ok_X6_rests : mc_ok M_X6_rests 0 := ⟨by decide +kernel, ⟨by decide +kernel, by decide +kernel⟩, by decide +kernel, by decide, mc_in 857 (by decide +kernel) (by decide +kernel), iniX6⟩
theorem st_X6_rests : Cond.instanceMethod M_X6_rests.1 ∈ mc_tbl := mc_in 855 (by decide +kernel) (by decide +kernel)
theorem se_X6_rests : Cond.selects RX6 M_X6_rests.1 M_X6_rests.1 ∈ mc_tbl := mc_in 856 (by decide +kernel) (by decide +kernel)
theorem ok_X6_bounds : mc_ok M_X6_bounds 2 := ⟨by decide +kernel, ⟨by decide +kernel, by decide +kernel⟩, by decide +kernel, by decide, mc_in 925 (by decide +kernel) (by decide +kernel), iniX6⟩
theorem st_X6_bounds : Cond.instanceMethod M_X6_bounds.1 ∈ mc_tbl := mc_in 923 (by decide +kernel) (by decide +kernel)
theorem se_X6_bounds : Cond.selects RX6 M_X6_bounds.1 M_X6_bounds.1 ∈ mc_tbl := mc_in 924 (by decide +kernel) (by decide +kernel)
theorem ok_X6_bears : mc_ok M_X6_bears 3 := ⟨by decide +kernel, ⟨by decide +kernel, by decide +kernel⟩, by decide +kernel, by decide, mc_in 937 (by decide +kernel) (by decide +kernel), iniX6⟩
theorem st_X6_bears : Cond.instanceMethod M_X6_bears.1 ∈ mc_tbl := mc_in 935 (by decide +kernel) (by decide +kernel)
theorem se_X6_bears : Cond.selects RX6 M_X6_bears.1 M_X6_bears.1 ∈ mc_tbl := mc_in 936 (by decide +kernel) (by decide +kernel)
theorem ok_X6_where : mc_ok M_X6_where 2 := ⟨by decide +kernel, ⟨by decide +kernel, by decide +kernel⟩, by decide +kernel, by decide, mc_in 942 (by decide +kernel) (by decide +kernel), iniX6⟩
theorem st_X6_where : Cond.instanceMethod M_X6_where.1 ∈ mc_tbl := mc_in 940 (by decide +kernel) (by decide +kernel)
theorem se_X6_where : Cond.selects RX6 M_X6_where.1 M_X6_where.1 ∈ mc_tbl := mc_in 941 (by decide +kernel) (by decide +kernel)
theorem ok_X6_weights : mc_ok M_X6_weights 1 := ⟨by decide +kernel, ⟨by decide +kernel, by decide +kernel⟩, by decide +kernel, by decide, mc_in 946 (by decide +kernel) (by decide +kernel), iniX6⟩
theorem st_X6_weights : Cond.instanceMethod M_X6_weights.1 ∈ mc_tbl := mc_in 944 (by decide +kernel) (by decide +kernel)
theorem se_X6_weights : Cond.selects RX6 M_X6_weights.1 M_X6_weights.1 ∈ mc_tbl := mc_in 945 (by decide +kernel) (by decide +kernel)
theorem ok_X6_restsWithout : mc_ok M_X6_restsWithout 1 := ⟨by decide +kernel, ⟨by decide +kernel, by decide +kernel⟩, by decide +kernel, by decide, mc_in 954 (by decide +kernel) (by decide +kernel), iniX6⟩
theorem st_X6_restsWithout : Cond.instanceMethod M_X6_restsWithout.1 ∈ mc_tbl := mc_in 953 (by decide +kernel) (by decide +kernel)
theorem se_X6_restsWithout : Cond.selects RX6 M_X6_restsWithout.1 M_X6_restsWithout.1 ∈ mc_tbl := mc_in 70 (by decide +kernel) (by decide +kernel)
theorem ok_X6_key : mc_ok M_X6_key 0 := ⟨by decide +kernel, ⟨by decide +kernel, by decide +kernel⟩, by decide +kernel, by decide, mc_in 950 (by decide +kernel) (by decide +kernel), iniX6⟩
theorem st_X6_key : Cond.instanceMethod M_X6_key.1 ∈ mc_tbl := mc_in 948 (by decide +kernel) (by decide +kernel)
theorem se_X6_key : Cond.selects RX6 M_X6_key.1 M_X6_key.1 ∈ mc_tbl := mc_in 949 (by decide +kernel) (by decide +kernel)
theorem ok_X6_hold : mc_ok M_X6_hold 0 := ⟨by decide +kernel, ⟨by decide +kernel, by decide +kernel⟩, by decide +kernel, by decide, mc_in 958 (by decide +kernel) (by decide +kernel), iniX6⟩
theorem st_X6_hold : Cond.instanceMethod M_X6_hold.1 ∈ mc_tbl := mc_in 956 (by decide +kernel) (by decide +kernel)
theorem se_X6_hold : Cond.selects RX6 M_X6_hold.1 M_X6_hold.1 ∈ mc_tbl := mc_in 957 (by decide +kernel) (by decide +kernel)
theorem ok_X6_keep : mc_ok M_X6_keep 1 := ⟨by decide +kernel, ⟨by decide +kernel, by decide +kernel⟩, by decide +kernel, by decide, mc_in 962 (by decide +kernel) (by decide +kernel), iniX6⟩
theorem st_X6_keep : Cond.instanceMethod M_X6_keep.1 ∈ mc_tbl := mc_in 960 (by decide +kernel) (by decide +kernel)
theorem se_X6_keep : Cond.selects RX6 M_X6_keep.1 M_X6_keep.1 ∈ mc_tbl := mc_in 961 (by decide +kernel) (by decide +kernel)
theorem ok_X6_back : mc_ok M_X6_back 1 := ⟨by decide +kernel, ⟨by decide +kernel, by decide +kernel⟩, by decide +kernel, by decide, mc_in 966 (by decide +kernel) (by decide +kernel), iniX6⟩
theorem st_X6_back : Cond.instanceMethod M_X6_back.1 ∈ mc_tbl := mc_in 964 (by decide +kernel) (by decide +kernel)
theorem se_X6_back : Cond.selects RX6 M_X6_back.1 M_X6_back.1 ∈ mc_tbl := mc_in 965 (by decide +kernel) (by decide +kernel)
theorem ok_X6_heavy : mc_ok M_X6_heavy 0 := ⟨by decide +kernel, ⟨by decide +kernel, by decide +kernel⟩, by decide +kernel, by decide, mc_in 978 (by decide +kernel) (by decide +kernel), iniX6⟩
theorem st_X6_heavy : Cond.instanceMethod M_X6_heavy.1 ∈ mc_tbl := mc_in 977 (by decide +kernel) (by decide +kernel)
theorem se_X6_heavy : Cond.selects RX6 M_X6_heavy.1 M_X6_heavy.1 ∈ mc_tbl := mc_in 72 (by decide +kernel) (by decide +kernel)
theorem ok_X6_highest : mc_ok M_X6_highest 0 := ⟨by decide +kernel, ⟨by decide +kernel, by decide +kernel⟩, by decide +kernel, by decide, mc_in 982 (by decide +kernel) (by decide +kernel), iniX6⟩
theorem st_X6_highest : Cond.instanceMethod M_X6_highest.1 ∈ mc_tbl := mc_in 981 (by decide +kernel) (by decide +kernel)
theorem se_X6_highest : Cond.selects RX6 M_X6_highest.1 M_X6_highest.1 ∈ mc_tbl := mc_in 73 (by decide +kernel) (by decide +kernel)
theorem ok_X6_contactsNow : mc_ok M_X6_contactsNow 0 := ⟨by decide +kernel, ⟨by decide +kernel, by decide +kernel⟩, by decide +kernel, by decide, mc_in 974 (by decide +kernel) (by decide +kernel), iniX6⟩
theorem st_X6_contactsNow : Cond.instanceMethod M_X6_contactsNow.1 ∈ mc_tbl := mc_in 973 (by decide +kernel) (by decide +kernel)
theorem se_X6_contactsNow : Cond.selects RX6 M_X6_contactsNow.1 M_X6_contactsNow.1 ∈ mc_tbl := mc_in 71 (by decide +kernel) (by decide +kernel)
theorem ok_X6_count : mc_ok M_X6_count 1 := ⟨by decide +kernel, ⟨by decide +kernel, by decide +kernel⟩, by decide +kernel, by decide, mc_in 970 (by decide +kernel) (by decide +kernel), iniX6⟩
theorem st_X6_count : Cond.instanceMethod M_X6_count.1 ∈ mc_tbl := mc_in 968 (by decide +kernel) (by decide +kernel)
theorem se_X6_count : Cond.selects RX6 M_X6_count.1 M_X6_count.1 ∈ mc_tbl := mc_in 969 (by decide +kernel) (by decide +kernel)
theorem ok_J6_bitCount_0f7a4 : mc_ok M_J6_bitCount_0f7a4 1 := ⟨by decide +kernel, ⟨by decide +kernel, by decide +kernel⟩, by decide +kernel, by decide, mc_in 588 (by decide +kernel) (by decide +kernel), iniJ6⟩
theorem st_J6_bitCount_0f7a4 : Cond.static M_J6_bitCount_0f7a4.1 ∈ mc_tbl := mc_in 587 (by decide +kernel) (by decide +kernel)
theorem mm_st_max : Cond.static Lib.Math.max.name ∈ mc_tbl := mc_in 194 (by decide +kernel) (by decide +kernel)
theorem mm_cd_max : Cond.code Lib.Math.max.name Lib.Math.max.code 2 (some .int) ∈ mc_tbl := mc_in 195 (by decide +kernel) (by decide +kernel)
theorem mm_st_min : Cond.static Lib.Math.min.name ∈ mc_tbl := mc_in 296 (by decide +kernel) (by decide +kernel)
theorem mm_cd_min : Cond.code Lib.Math.min.name Lib.Math.min.code 2 (some .int) ∈ mc_tbl := mc_in 297 (by decide +kernel) (by decide +kernel)
theorem mm_st_abs : Cond.static Lib.MathLoose.abs_long.x ∈ mc_tbl := mc_in 550 (by decide +kernel) (by decide +kernel)
theorem mm_cd_abs : Cond.code Lib.MathLoose.abs_long.x Lib.MathLoose.abs_long.code 2 (some .long) ∈ mc_tbl := mc_in 551 (by decide +kernel) (by decide +kernel)
theorem mm_ini : Cond.initialized "java/lang/Math" ∈ mc_tbl := mc_in 81 (by decide +kernel) (by decide +kernel)
theorem lk_0 : Cond.methodLink RX5 42 M_X3_init.1 ∈ mc_tbl := mc_in 189 (by decide +kernel) (by decide +kernel)
theorem lk_1 : Cond.methodLink RX5 60 M_X5_within.1 ∈ mc_tbl := mc_in 236 (by decide +kernel) (by decide +kernel)
theorem lk_2 : Cond.methodLink RX5 64 M_X4_append.1 ∈ mc_tbl := mc_in 239 (by decide +kernel) (by decide +kernel)
theorem lk_3 : Cond.methodLink RX5 68 M_X4_length.1 ∈ mc_tbl := mc_in 243 (by decide +kernel) (by decide +kernel)
theorem lk_4 : Cond.methodLink RX5 72 M_X4_wipe.1 ∈ mc_tbl := mc_in 251 (by decide +kernel) (by decide +kernel)
theorem lk_5 : Cond.methodLink RX5 75 M_X4_readInto.1 ∈ mc_tbl := mc_in 259 (by decide +kernel) (by decide +kernel)
theorem lk_6 : Cond.methodLink RX5 79 M_X4_place.1 ∈ mc_tbl := mc_in 325 (by decide +kernel) (by decide +kernel)
theorem lk_7 : Cond.methodLink RX5 82 M_X5_remember.1 ∈ mc_tbl := mc_in 329 (by decide +kernel) (by decide +kernel)
theorem lk_8 : Cond.methodLink RX5 85 M_X2_copy.1 ∈ mc_tbl := mc_in 345 (by decide +kernel) (by decide +kernel)
theorem lk_9 : Cond.methodLink RX5 89 M_X5_isBlock.1 ∈ mc_tbl := mc_in 354 (by decide +kernel) (by decide +kernel)
theorem lk_10 : Cond.methodLink RX5 93 M_X2_size.1 ∈ mc_tbl := mc_in 357 (by decide +kernel) (by decide +kernel)
theorem lk_11 : Cond.methodLink RX5 96 M_X2_add.1 ∈ mc_tbl := mc_in 358 (by decide +kernel) (by decide +kernel)
theorem lk_12 : Cond.methodLink RX5 100 M_X1_find.1 ∈ mc_tbl := mc_in 359 (by decide +kernel) (by decide +kernel)
theorem lk_13 : Cond.methodLink RX5 103 M_X1_level.1 ∈ mc_tbl := mc_in 387 (by decide +kernel) (by decide +kernel)
theorem lk_14 : Cond.methodLink RX5 107 M_X2_has.1 ∈ mc_tbl := mc_in 396 (by decide +kernel) (by decide +kernel)
theorem lk_15 : Cond.methodLink RX5 110 M_X1_over.1 ∈ mc_tbl := mc_in 397 (by decide +kernel) (by decide +kernel)
theorem lk_16 : Cond.methodLink RX5 113 M_X2_takeOut.1 ∈ mc_tbl := mc_in 401 (by decide +kernel) (by decide +kernel)
theorem lk_17 : Cond.methodLink RX5 116 M_X2_get.1 ∈ mc_tbl := mc_in 409 (by decide +kernel) (by decide +kernel)
theorem lk_18 : Cond.methodLink RX5 120 M_X2_set.1 ∈ mc_tbl := mc_in 410 (by decide +kernel) (by decide +kernel)
theorem lk_19 : Cond.methodLink RX5 123 M_X5_isSpot.1 ∈ mc_tbl := mc_in 415 (by decide +kernel) (by decide +kernel)
theorem lk_20 : Cond.methodLink RX5 126 M_X3_read.1 ∈ mc_tbl := mc_in 423 (by decide +kernel) (by decide +kernel)
theorem lk_21 : Cond.methodLink RX5 130 M_X1_under.1 ∈ mc_tbl := mc_in 431 (by decide +kernel) (by decide +kernel)
theorem lk_22 : Cond.methodLink RX5 133 M_X1_contacts.1 ∈ mc_tbl := mc_in 439 (by decide +kernel) (by decide +kernel)
theorem lk_23 : Cond.methodLink RX5 136 M_X1_upper.1 ∈ mc_tbl := mc_in 443 (by decide +kernel) (by decide +kernel)
theorem lk_24 : Cond.methodLink RX5 139 M_X1_lower.1 ∈ mc_tbl := mc_in 447 (by decide +kernel) (by decide +kernel)
theorem lk_25 : Cond.methodLink RX5 142 M_X1_x.1 ∈ mc_tbl := mc_in 451 (by decide +kernel) (by decide +kernel)
theorem lk_26 : Cond.methodLink RX5 145 M_X5_isBalanced.1 ∈ mc_tbl := mc_in 459 (by decide +kernel) (by decide +kernel)
theorem lk_27 : Cond.methodLink RX5 151 M_X0_pose.1 ∈ mc_tbl := mc_in 463 (by decide +kernel) (by decide +kernel)
theorem lk_28 : Cond.methodLink RX5 155 M_X5_extreme.1 ∈ mc_tbl := mc_in 520 (by decide +kernel) (by decide +kernel)
theorem lk_29 : Cond.methodLink RX5 159 M_X0_poseLoad.1 ∈ mc_tbl := mc_in 560 (by decide +kernel) (by decide +kernel)
theorem lk_30 : Cond.methodLink RX5 162 M_X5_restsWithout.1 ∈ mc_tbl := mc_in 578 (by decide +kernel) (by decide +kernel)
theorem lk_31 : Cond.methodLink RX5 165 M_J6_bitCount_0f7a4.1 ∈ mc_tbl := mc_in 586 (by decide +kernel) (by decide +kernel)
theorem lk_32 : Cond.methodLink RX5 170 M_X3_write.1 ∈ mc_tbl := mc_in 340 (by decide +kernel) (by decide +kernel)
theorem lk_33 : Cond.methodLink RX5 173 M_X2_heaviness.1 ∈ mc_tbl := mc_in 604 (by decide +kernel) (by decide +kernel)
theorem lk_34 : Cond.methodLink RX5 176 M_X1_greatestLevel.1 ∈ mc_tbl := mc_in 609 (by decide +kernel) (by decide +kernel)
theorem lk_35 : Cond.methodLink RX5 179 M_X3_forgetFirst.1 ∈ mc_tbl := mc_in 333 (by decide +kernel) (by decide +kernel)
theorem lk_36 : Cond.methodLink RX5 182 M_X0_solve.1 ∈ mc_tbl := mc_in 478 (by decide +kernel) (by decide +kernel)
theorem lk_37 : Cond.methodLink RX5 188 M_X0_makeLeast.1 ∈ mc_tbl := mc_in 525 (by decide +kernel) (by decide +kernel)
theorem lk_38 : Cond.methodLink RX5 191 M_X0_makeGreatest.1 ∈ mc_tbl := mc_in 537 (by decide +kernel) (by decide +kernel)
theorem lk_39 : Cond.methodLink RX5 196 M_X0_numerator.1 ∈ mc_tbl := mc_in 542 (by decide +kernel) (by decide +kernel)
theorem lk_40 : Cond.methodLink RX5 200 M_X0_denominator.1 ∈ mc_tbl := mc_in 552 (by decide +kernel) (by decide +kernel)
theorem lk_41 : Cond.methodLink RX0 36 M_X1_contacts.1 ∈ mc_tbl := mc_in 467 (by decide +kernel) (by decide +kernel)
theorem lk_42 : Cond.methodLink RX0 40 Lib.Math.min.name ∈ mc_tbl := mc_in 468 (by decide +kernel) (by decide +kernel)
theorem lk_43 : Cond.methodLink RX0 46 M_X2_size.1 ∈ mc_tbl := mc_in 469 (by decide +kernel) (by decide +kernel)
theorem lk_44 : Cond.methodLink RX0 51 M_X0_poseBlock.1 ∈ mc_tbl := mc_in 470 (by decide +kernel) (by decide +kernel)
theorem lk_45 : Cond.methodLink RX0 55 M_X1_upper.1 ∈ mc_tbl := mc_in 474 (by decide +kernel) (by decide +kernel)
theorem lk_46 : Cond.methodLink RX0 59 M_X1_lower.1 ∈ mc_tbl := mc_in 475 (by decide +kernel) (by decide +kernel)
theorem lk_47 : Cond.methodLink RX0 62 M_X1_x.1 ∈ mc_tbl := mc_in 476 (by decide +kernel) (by decide +kernel)
theorem lk_48 : Cond.methodLink RX0 65 M_X2_get.1 ∈ mc_tbl := mc_in 477 (by decide +kernel) (by decide +kernel)
theorem lk_49 : Cond.methodLink RX0 75 M_X0_firstThatLessensMakeshift.1 ∈ mc_tbl := mc_in 483 (by decide +kernel) (by decide +kernel)
theorem lk_50 : Cond.methodLink RX0 78 M_X0_leavingRow.1 ∈ mc_tbl := mc_in 491 (by decide +kernel) (by decide +kernel)
theorem lk_51 : Cond.methodLink RX0 81 M_X0_pivot.1 ∈ mc_tbl := mc_in 499 (by decide +kernel) (by decide +kernel)
theorem lk_52 : Cond.methodLink RX0 85 M_X0_makeshift.1 ∈ mc_tbl := mc_in 487 (by decide +kernel) (by decide +kernel)
theorem lk_53 : Cond.methodLink RX0 89 M_X0_driveOutMakeshift.1 ∈ mc_tbl := mc_in 511 (by decide +kernel) (by decide +kernel)
theorem lk_54 : Cond.methodLink RX0 92 M_X0_rowThatGives.1 ∈ mc_tbl := mc_in 529 (by decide +kernel) (by decide +kernel)
theorem lk_55 : Cond.methodLink RX0 95 M_X0_firstOfSign.1 ∈ mc_tbl := mc_in 533 (by decide +kernel) (by decide +kernel)
theorem lk_56 : Cond.methodLink RX0 99 M_X0_leavesAhead.1 ∈ mc_tbl := mc_in 495 (by decide +kernel) (by decide +kernel)
theorem lk_57 : Cond.methodLink RX0 102 M_X0_turnSigns.1 ∈ mc_tbl := mc_in 503 (by decide +kernel) (by decide +kernel)
theorem lk_58 : Cond.methodLink RX0 106 M_X0_clearBy.1 ∈ mc_tbl := mc_in 507 (by decide +kernel) (by decide +kernel)
theorem lk_59 : Cond.methodLink RX0 110 M_X0_commonDivisor.1 ∈ mc_tbl := mc_in 546 (by decide +kernel) (by decide +kernel)
theorem lk_60 : Cond.methodLink RX0 114 Lib.MathLoose.abs_long.x ∈ mc_tbl := mc_in 549 (by decide +kernel) (by decide +kernel)
theorem lk_61 : Cond.methodLink RX1 43 M_X2_size.1 ∈ mc_tbl := mc_in 363 (by decide +kernel) (by decide +kernel)
theorem lk_62 : Cond.methodLink RX1 49 Lib.Math.min.name ∈ mc_tbl := mc_in 364 (by decide +kernel) (by decide +kernel)
theorem lk_63 : Cond.methodLink RX1 55 M_X2_get.1 ∈ mc_tbl := mc_in 365 (by decide +kernel) (by decide +kernel)
theorem lk_64 : Cond.methodLink RX1 58 M_X1_findLevel.1 ∈ mc_tbl := mc_in 366 (by decide +kernel) (by decide +kernel)
theorem lk_65 : Cond.methodLink RX1 62 M_X1_findUnder.1 ∈ mc_tbl := mc_in 375 (by decide +kernel) (by decide +kernel)
theorem lk_66 : Cond.methodLink RX1 65 M_X1_findContacts.1 ∈ mc_tbl := mc_in 379 (by decide +kernel) (by decide +kernel)
theorem lk_67 : Cond.methodLink RX1 68 M_X1_overlap.1 ∈ mc_tbl := mc_in 370 (by decide +kernel) (by decide +kernel)
theorem lk_68 : Cond.methodLink RX1 72 Lib.Math.max.name ∈ mc_tbl := mc_in 374 (by decide +kernel) (by decide +kernel)
theorem lk_69 : Cond.methodLink RX1 75 M_X1_addContact.1 ∈ mc_tbl := mc_in 383 (by decide +kernel) (by decide +kernel)
theorem lk_70 : Cond.methodLink RX2 15 M_X2_has.1 ∈ mc_tbl := mc_in 311 (by decide +kernel) (by decide +kernel)
theorem lk_71 : Cond.methodLink RX2 23 M_X2_size.1 ∈ mc_tbl := mc_in 306 (by decide +kernel) (by decide +kernel)
theorem lk_72 : Cond.methodLink RX2 27 M_X2_set.1 ∈ mc_tbl := mc_in 307 (by decide +kernel) (by decide +kernel)
theorem lk_73 : Cond.methodLink RX2 37 M_X2_get.1 ∈ mc_tbl := mc_in 608 (by decide +kernel) (by decide +kernel)
theorem lk_74 : Cond.methodLink RX3 7 Lib.Math.max.name ∈ mc_tbl := mc_in 193 (by decide +kernel) (by decide +kernel)
theorem lk_75 : Cond.methodLink RX4 22 M_X2_empty.1 ∈ mc_tbl := mc_in 263 (by decide +kernel) (by decide +kernel)
theorem lk_76 : Cond.methodLink RX4 27 M_X4_skipBlanks.1 ∈ mc_tbl := mc_in 267 (by decide +kernel) (by decide +kernel)
theorem lk_77 : Cond.methodLink RX4 30 M_X4_readItem.1 ∈ mc_tbl := mc_in 275 (by decide +kernel) (by decide +kernel)
theorem lk_78 : Cond.methodLink RX4 34 M_X4_next.1 ∈ mc_tbl := mc_in 271 (by decide +kernel) (by decide +kernel)
theorem lk_79 : Cond.methodLink RX4 38 M_X4_readBlock.1 ∈ mc_tbl := mc_in 279 (by decide +kernel) (by decide +kernel)
theorem lk_80 : Cond.methodLink RX4 41 M_X4_readLoad.1 ∈ mc_tbl := mc_in 316 (by decide +kernel) (by decide +kernel)
theorem lk_81 : Cond.methodLink RX4 44 M_X2_size.1 ∈ mc_tbl := mc_in 283 (by decide +kernel) (by decide +kernel)
theorem lk_82 : Cond.methodLink RX4 47 M_X4_readNumber.1 ∈ mc_tbl := mc_in 287 (by decide +kernel) (by decide +kernel)
theorem lk_83 : Cond.methodLink RX4 51 M_X4_readEnd.1 ∈ mc_tbl := mc_in 298 (by decide +kernel) (by decide +kernel)
theorem lk_84 : Cond.methodLink RX4 55 M_X2_add.1 ∈ mc_tbl := mc_in 302 (by decide +kernel) (by decide +kernel)
theorem lk_85 : Cond.methodLink RX4 59 M_X2_get.1 ∈ mc_tbl := mc_in 320 (by decide +kernel) (by decide +kernel)
theorem lk_86 : Cond.methodLink RX4 62 M_X2_set.1 ∈ mc_tbl := mc_in 324 (by decide +kernel) (by decide +kernel)
theorem lk_87 : Cond.methodLink RX4 65 M_X4_isFigure.1 ∈ mc_tbl := mc_in 291 (by decide +kernel) (by decide +kernel)
theorem lk_88 : Cond.methodLink RX4 69 Lib.Math.min.name ∈ mc_tbl := mc_in 295 (by decide +kernel) (by decide +kernel)
theorem lk_89 : Cond.methodLink RL 9 M_X5_init.1 ∈ mc_tbl := mc_in 87 (by decide +kernel) (by decide +kernel)
theorem lk_90 : Cond.methodLink RL 12 M_X6_init.1 ∈ mc_tbl := mc_in 615 (by decide +kernel) (by decide +kernel)
theorem lk_91 : Cond.methodLink RL 13 M_X5_type.1 ∈ mc_tbl := mc_in 232 (by decide +kernel) (by decide +kernel)
theorem lk_92 : Cond.methodLink RL 17 M_X6_type.1 ∈ mc_tbl := mc_in 701 (by decide +kernel) (by decide +kernel)
theorem lk_93 : Cond.methodLink RL 18 M_X5_clear.1 ∈ mc_tbl := mc_in 247 (by decide +kernel) (by decide +kernel)
theorem lk_94 : Cond.methodLink RL 22 M_X6_clear.1 ∈ mc_tbl := mc_in 708 (by decide +kernel) (by decide +kernel)
theorem lk_95 : Cond.methodLink RL 23 M_X5_tells.1 ∈ mc_tbl := mc_in 255 (by decide +kernel) (by decide +kernel)
theorem lk_96 : Cond.methodLink RL 26 M_X6_tells.1 ∈ mc_tbl := mc_in 712 (by decide +kernel) (by decide +kernel)
theorem lk_97 : Cond.methodLink RL 27 M_X5_drops.1 ∈ mc_tbl := mc_in 350 (by decide +kernel) (by decide +kernel)
theorem lk_98 : Cond.methodLink RL 31 M_X6_drops.1 ∈ mc_tbl := mc_in 764 (by decide +kernel) (by decide +kernel)
theorem lk_99 : Cond.methodLink RL 32 M_X5_lifts.1 ∈ mc_tbl := mc_in 392 (by decide +kernel) (by decide +kernel)
theorem lk_100 : Cond.methodLink RL 35 M_X6_lifts.1 ∈ mc_tbl := mc_in 803 (by decide +kernel) (by decide +kernel)
theorem lk_101 : Cond.methodLink RL 36 M_X5_weighs.1 ∈ mc_tbl := mc_in 405 (by decide +kernel) (by decide +kernel)
theorem lk_102 : Cond.methodLink RL 40 M_X6_weighs.1 ∈ mc_tbl := mc_in 822 (by decide +kernel) (by decide +kernel)
theorem lk_103 : Cond.methodLink RL 41 M_X5_loads.1 ∈ mc_tbl := mc_in 411 (by decide +kernel) (by decide +kernel)
theorem lk_104 : Cond.methodLink RL 44 M_X6_loads.1 ∈ mc_tbl := mc_in 826 (by decide +kernel) (by decide +kernel)
theorem lk_105 : Cond.methodLink RL 45 M_X5_undo.1 ∈ mc_tbl := mc_in 419 (by decide +kernel) (by decide +kernel)
theorem lk_106 : Cond.methodLink RL 48 M_X6_undo.1 ∈ mc_tbl := mc_in 834 (by decide +kernel) (by decide +kernel)
theorem lk_107 : Cond.methodLink RL 49 M_X5_block.1 ∈ mc_tbl := mc_in 427 (by decide +kernel) (by decide +kernel)
theorem lk_108 : Cond.methodLink RL 52 M_X6_block.1 ∈ mc_tbl := mc_in 838 (by decide +kernel) (by decide +kernel)
theorem lk_109 : Cond.methodLink RL 53 M_X5_contact.1 ∈ mc_tbl := mc_in 435 (by decide +kernel) (by decide +kernel)
theorem lk_110 : Cond.methodLink RL 56 M_X6_contact.1 ∈ mc_tbl := mc_in 846 (by decide +kernel) (by decide +kernel)
theorem lk_111 : Cond.methodLink RL 57 M_X5_rests.1 ∈ mc_tbl := mc_in 455 (by decide +kernel) (by decide +kernel)
theorem lk_112 : Cond.methodLink RL 60 M_X6_rests.1 ∈ mc_tbl := mc_in 854 (by decide +kernel) (by decide +kernel)
theorem lk_113 : Cond.methodLink RL 61 M_X5_bounds.1 ∈ mc_tbl := mc_in 515 (by decide +kernel) (by decide +kernel)
theorem lk_114 : Cond.methodLink RL 65 M_X6_bounds.1 ∈ mc_tbl := mc_in 922 (by decide +kernel) (by decide +kernel)
theorem lk_115 : Cond.methodLink RL 66 M_X5_bears.1 ∈ mc_tbl := mc_in 556 (by decide +kernel) (by decide +kernel)
theorem lk_116 : Cond.methodLink RL 70 M_X6_bears.1 ∈ mc_tbl := mc_in 934 (by decide +kernel) (by decide +kernel)
theorem lk_117 : Cond.methodLink RL 71 M_X5_where.1 ∈ mc_tbl := mc_in 566 (by decide +kernel) (by decide +kernel)
theorem lk_118 : Cond.methodLink RL 74 M_X6_where.1 ∈ mc_tbl := mc_in 939 (by decide +kernel) (by decide +kernel)
theorem lk_119 : Cond.methodLink RL 75 M_X5_weights.1 ∈ mc_tbl := mc_in 570 (by decide +kernel) (by decide +kernel)
theorem lk_120 : Cond.methodLink RL 78 M_X6_weights.1 ∈ mc_tbl := mc_in 943 (by decide +kernel) (by decide +kernel)
theorem lk_121 : Cond.methodLink RL 79 M_X5_key.1 ∈ mc_tbl := mc_in 574 (by decide +kernel) (by decide +kernel)
theorem lk_122 : Cond.methodLink RL 82 M_X6_key.1 ∈ mc_tbl := mc_in 947 (by decide +kernel) (by decide +kernel)
theorem lk_123 : Cond.methodLink RL 83 M_X5_hold.1 ∈ mc_tbl := mc_in 582 (by decide +kernel) (by decide +kernel)
theorem lk_124 : Cond.methodLink RL 86 M_X6_hold.1 ∈ mc_tbl := mc_in 955 (by decide +kernel) (by decide +kernel)
theorem lk_125 : Cond.methodLink RL 87 M_X5_keep.1 ∈ mc_tbl := mc_in 592 (by decide +kernel) (by decide +kernel)
theorem lk_126 : Cond.methodLink RL 90 M_X6_keep.1 ∈ mc_tbl := mc_in 959 (by decide +kernel) (by decide +kernel)
theorem lk_127 : Cond.methodLink RL 91 M_X5_back.1 ∈ mc_tbl := mc_in 596 (by decide +kernel) (by decide +kernel)
theorem lk_128 : Cond.methodLink RL 94 M_X6_back.1 ∈ mc_tbl := mc_in 963 (by decide +kernel) (by decide +kernel)
theorem lk_129 : Cond.methodLink RL 95 M_X5_count.1 ∈ mc_tbl := mc_in 600 (by decide +kernel) (by decide +kernel)
theorem lk_130 : Cond.methodLink RL 98 M_X6_count.1 ∈ mc_tbl := mc_in 967 (by decide +kernel) (by decide +kernel)
theorem lk_131 : Cond.methodLink RX6 54 M_X6_within.1 ∈ mc_tbl := mc_in 705 (by decide +kernel) (by decide +kernel)
theorem lk_132 : Cond.methodLink RX6 58 M_X6_get.1 ∈ mc_tbl := mc_in 752 (by decide +kernel) (by decide +kernel)
theorem lk_133 : Cond.methodLink RX6 62 M_X6_end.1 ∈ mc_tbl := mc_in 795 (by decide +kernel) (by decide +kernel)
theorem lk_134 : Cond.methodLink RX6 66 M_X6_from.1 ∈ mc_tbl := mc_in 787 (by decide +kernel) (by decide +kernel)
theorem lk_135 : Cond.methodLink RX6 69 M_X6_to.1 ∈ mc_tbl := mc_in 791 (by decide +kernel) (by decide +kernel)
theorem lk_136 : Cond.methodLink RX6 76 M_X6_doOverlap.1 ∈ mc_tbl := mc_in 783 (by decide +kernel) (by decide +kernel)
theorem lk_137 : Cond.methodLink RX6 80 M_X6_touches.1 ∈ mc_tbl := mc_in 799 (by decide +kernel) (by decide +kernel)
theorem lk_138 : Cond.methodLink RX6 84 M_X6_many.1 ∈ mc_tbl := mc_in 775 (by decide +kernel) (by decide +kernel)
theorem lk_139 : Cond.methodLink RX6 88 M_X6_layBlock.1 ∈ mc_tbl := mc_in 779 (by decide +kernel) (by decide +kernel)
theorem lk_140 : Cond.methodLink RX6 92 M_X6_has.1 ∈ mc_tbl := mc_in 815 (by decide +kernel) (by decide +kernel)
theorem lk_141 : Cond.methodLink RX6 100 M_X6_layRow.1 ∈ mc_tbl := mc_in 874 (by decide +kernel) (by decide +kernel)
theorem lk_142 : Cond.methodLink RX6 107 M_X6_fills.1 ∈ mc_tbl := mc_in 890 (by decide +kernel) (by decide +kernel)
theorem lk_143 : Cond.methodLink RX6 110 M_X6_pivot.1 ∈ mc_tbl := mc_in 894 (by decide +kernel) (by decide +kernel)
theorem lk_144 : Cond.methodLink RX6 113 M_X6_swaps.1 ∈ mc_tbl := mc_in 898 (by decide +kernel) (by decide +kernel)
theorem lk_145 : Cond.methodLink RX6 117 M_X6_clears.1 ∈ mc_tbl := mc_in 902 (by decide +kernel) (by decide +kernel)
theorem lk_146 : Cond.methodLink RX6 121 M_X6_divisor.1 ∈ mc_tbl := mc_in 910 (by decide +kernel) (by decide +kernel)
theorem lk_147 : Cond.methodLink RX6 125 M_X6_ones.1 ∈ mc_tbl := mc_in 883 (by decide +kernel) (by decide +kernel)
theorem lk_148 : Cond.methodLink RX6 145 M_X6_solves.1 ∈ mc_tbl := mc_in 886 (by decide +kernel) (by decide +kernel)
theorem lk_149 : Cond.methodLink RX6 149 M_X6_isNoneBelow.1 ∈ mc_tbl := mc_in 906 (by decide +kernel) (by decide +kernel)
theorem lk_150 : Cond.methodLink RX6 153 M_X6_solved.1 ∈ mc_tbl := mc_in 914 (by decide +kernel) (by decide +kernel)
theorem lk_151 : Cond.methodLink RX6 157 M_X6_meets.1 ∈ mc_tbl := mc_in 918 (by decide +kernel) (by decide +kernel)
theorem lk_152 : Cond.methodLink RX6 161 M_X6_layAll.1 ∈ mc_tbl := mc_in 771 (by decide +kernel) (by decide +kernel)
theorem lk_153 : Cond.methodLink RX6 164 M_X6_layRows.1 ∈ mc_tbl := mc_in 870 (by decide +kernel) (by decide +kernel)
theorem lk_154 : Cond.methodLink RX6 168 M_X6_seeks.1 ∈ mc_tbl := mc_in 879 (by decide +kernel) (by decide +kernel)
theorem lk_155 : Cond.methodLink RX6 171 M_X6_all.1 ∈ mc_tbl := mc_in 862 (by decide +kernel) (by decide +kernel)
theorem lk_156 : Cond.methodLink RX6 174 M_X6_canBalance.1 ∈ mc_tbl := mc_in 866 (by decide +kernel) (by decide +kernel)
theorem lk_157 : Cond.methodLink RX6 177 M_X6_common.1 ∈ mc_tbl := mc_in 930 (by decide +kernel) (by decide +kernel)
theorem lk_158 : Cond.methodLink RX6 190 M_X6_skips.1 ∈ mc_tbl := mc_in 724 (by decide +kernel) (by decide +kernel)
theorem lk_159 : Cond.methodLink RX6 193 M_X6_isFigure.1 ∈ mc_tbl := mc_in 740 (by decide +kernel) (by decide +kernel)
theorem lk_160 : Cond.methodLink RX6 196 M_X6_number.1 ∈ mc_tbl := mc_in 736 (by decide +kernel) (by decide +kernel)
theorem lk_161 : Cond.methodLink RX6 199 M_X6_passes.1 ∈ mc_tbl := mc_in 728 (by decide +kernel) (by decide +kernel)
theorem lk_162 : Cond.methodLink RX6 202 M_X6_appends.1 ∈ mc_tbl := mc_in 744 (by decide +kernel) (by decide +kernel)
theorem lk_163 : Cond.methodLink RX6 208 M_X6_readsBlock.1 ∈ mc_tbl := mc_in 732 (by decide +kernel) (by decide +kernel)
theorem lk_164 : Cond.methodLink RX6 211 M_X6_readsLoad.1 ∈ mc_tbl := mc_in 748 (by decide +kernel) (by decide +kernel)
theorem lk_165 : Cond.methodLink RX6 217 M_X6_lays.1 ∈ mc_tbl := mc_in 716 (by decide +kernel) (by decide +kernel)
theorem lk_166 : Cond.methodLink RX6 221 M_X6_reads.1 ∈ mc_tbl := mc_in 720 (by decide +kernel) (by decide +kernel)
theorem lk_167 : Cond.methodLink RX6 224 M_X6_takes.1 ∈ mc_tbl := mc_in 756 (by decide +kernel) (by decide +kernel)
theorem lk_168 : Cond.methodLink RX6 227 M_X6_keeps.1 ∈ mc_tbl := mc_in 760 (by decide +kernel) (by decide +kernel)
theorem lk_169 : Cond.methodLink RX6 230 M_X6_fits.1 ∈ mc_tbl := mc_in 768 (by decide +kernel) (by decide +kernel)
theorem lk_170 : Cond.methodLink RX6 233 M_X6_isBlock.1 ∈ mc_tbl := mc_in 807 (by decide +kernel) (by decide +kernel)
theorem lk_171 : Cond.methodLink RX6 236 M_X6_above.1 ∈ mc_tbl := mc_in 811 (by decide +kernel) (by decide +kernel)
theorem lk_172 : Cond.methodLink RX6 239 M_X6_removes.1 ∈ mc_tbl := mc_in 818 (by decide +kernel) (by decide +kernel)
theorem lk_173 : Cond.methodLink RX6 242 M_X6_isSpot.1 ∈ mc_tbl := mc_in 830 (by decide +kernel) (by decide +kernel)
theorem lk_174 : Cond.methodLink RX6 245 M_X6_tellBlock.1 ∈ mc_tbl := mc_in 842 (by decide +kernel) (by decide +kernel)
theorem lk_175 : Cond.methodLink RX6 248 M_X6_isContact.1 ∈ mc_tbl := mc_in 850 (by decide +kernel) (by decide +kernel)
theorem lk_176 : Cond.methodLink RX6 251 M_X6_isResting.1 ∈ mc_tbl := mc_in 858 (by decide +kernel) (by decide +kernel)
theorem lk_177 : Cond.methodLink RX6 254 M_X6_told.1 ∈ mc_tbl := mc_in 926 (by decide +kernel) (by decide +kernel)
theorem lk_178 : Cond.methodLink RX6 262 M_X6_restsWithout.1 ∈ mc_tbl := mc_in 951 (by decide +kernel) (by decide +kernel)
theorem lk_179 : Cond.methodLink RX6 265 M_X6_contactsNow.1 ∈ mc_tbl := mc_in 971 (by decide +kernel) (by decide +kernel)
theorem lk_180 : Cond.methodLink RX6 268 M_X6_heavy.1 ∈ mc_tbl := mc_in 975 (by decide +kernel) (by decide +kernel)
theorem lk_181 : Cond.methodLink RX6 271 M_X6_highest.1 ∈ mc_tbl := mc_in 979 (by decide +kernel) (by decide +kernel)
theorem lk_182 : Cond.methodLinkNest RX5 9 M_X2_init.1 "RestingBlocks" ∈ mc_tbl := mc_in 95 (by decide +kernel) (by decide +kernel)
theorem lk_183 : Cond.methodLinkNest RX5 21 M_X1_init.1 "RestingBlocks" ∈ mc_tbl := mc_in 107 (by decide +kernel) (by decide +kernel)
theorem lk_184 : Cond.methodLinkNest RX5 28 M_X0_init.1 "RestingBlocks" ∈ mc_tbl := mc_in 144 (by decide +kernel) (by decide +kernel)
theorem lk_185 : Cond.methodLinkNest RX5 35 M_X4_init.1 "RestingBlocks" ∈ mc_tbl := mc_in 172 (by decide +kernel) (by decide +kernel)
theorem lk_186 : Cond.methodLinkNest RX0 68 M_X5_within.1 "RestingBlocks" ∈ mc_tbl := mc_in 564 (by decide +kernel) (by decide +kernel)
theorem lk_187 : Cond.methodLinkNest RX1 79 M_X5_within.1 "RestingBlocks" ∈ mc_tbl := mc_in 391 (by decide +kernel) (by decide +kernel)
theorem lk_188 : Cond.methodLinkNest RX2 19 M_X5_within.1 "RestingBlocks" ∈ mc_tbl := mc_in 315 (by decide +kernel) (by decide +kernel)
theorem lk_189 : Cond.methodLinkNest RX3 25 M_X5_within.1 "RestingBlocks" ∈ mc_tbl := mc_in 344 (by decide +kernel) (by decide +kernel)
theorem lk_190 : Cond.methodLinkNest RX4 74 M_X5_within.1 "RestingBlocks" ∈ mc_tbl := mc_in 294 (by decide +kernel) (by decide +kernel)
theorem fl_0 : Cond.fieldLink RX5 10 (TX5 0).1 (TX5 0).2.1 (TX5 0).2.2.1 ∈ mc_tbl := mc_in 203 (by decide +kernel) (by decide +kernel)
theorem fl_1 : Cond.fieldLink RX5 16 (TX5 1).1 (TX5 1).2.1 (TX5 1).2.2.1 ∈ mc_tbl := mc_in 204 (by decide +kernel) (by decide +kernel)
theorem fl_2 : Cond.fieldLink RX5 22 (TX5 2).1 (TX5 2).2.1 (TX5 2).2.2.1 ∈ mc_tbl := mc_in 205 (by decide +kernel) (by decide +kernel)
theorem fl_3 : Cond.fieldLink RX5 29 (TX5 3).1 (TX5 3).2.1 (TX5 3).2.2.1 ∈ mc_tbl := mc_in 206 (by decide +kernel) (by decide +kernel)
theorem fl_4 : Cond.fieldLink RX5 36 (TX5 4).1 (TX5 4).2.1 (TX5 4).2.2.1 ∈ mc_tbl := mc_in 207 (by decide +kernel) (by decide +kernel)
theorem fl_5 : Cond.fieldLink RX5 45 (TX5 5).1 (TX5 5).2.1 (TX5 5).2.2.1 ∈ mc_tbl := mc_in 208 (by decide +kernel) (by decide +kernel)
theorem fl_6 : Cond.fieldLink RX5 49 (TX5 6).1 (TX5 6).2.1 (TX5 6).2.2.1 ∈ mc_tbl := mc_in 209 (by decide +kernel) (by decide +kernel)
theorem fl_7 : Cond.fieldLink RX5 52 (TX5 7).1 (TX5 7).2.1 (TX5 7).2.2.1 ∈ mc_tbl := mc_in 210 (by decide +kernel) (by decide +kernel)
theorem fl_8 : Cond.fieldLink RX5 56 (TX5 8).1 (TX5 8).2.1 (TX5 8).2.2.1 ∈ mc_tbl := mc_in 211 (by decide +kernel) (by decide +kernel)
theorem fl_9 : Cond.fieldLink RX0 15 (TX0 0).1 (TX0 0).2.1 (TX0 0).2.2.1 ∈ mc_tbl := mc_in 150 (by decide +kernel) (by decide +kernel)
theorem fl_10 : Cond.fieldLink RX0 18 (TX0 1).1 (TX0 1).2.1 (TX0 1).2.2.1 ∈ mc_tbl := mc_in 151 (by decide +kernel) (by decide +kernel)
theorem fl_11 : Cond.fieldLink RX0 22 (TX0 2).1 (TX0 2).2.1 (TX0 2).2.2.1 ∈ mc_tbl := mc_in 152 (by decide +kernel) (by decide +kernel)
theorem fl_12 : Cond.fieldLink RX0 25 (TX0 3).1 (TX0 3).2.1 (TX0 3).2.2.1 ∈ mc_tbl := mc_in 153 (by decide +kernel) (by decide +kernel)
theorem fl_13 : Cond.fieldLink RX0 29 (TX0 4).1 (TX0 4).2.1 (TX0 4).2.2.1 ∈ mc_tbl := mc_in 154 (by decide +kernel) (by decide +kernel)
theorem fl_14 : Cond.fieldLink RX0 32 (TX0 5).1 (TX0 5).2.1 (TX0 5).2.2.1 ∈ mc_tbl := mc_in 155 (by decide +kernel) (by decide +kernel)
theorem fl_15 : Cond.fieldLink RX1 9 (TX1 0).1 (TX1 0).2.1 (TX1 0).2.2.1 ∈ mc_tbl := mc_in 111 (by decide +kernel) (by decide +kernel)
theorem fl_16 : Cond.fieldLink RX1 15 (TX1 1).1 (TX1 1).2.1 (TX1 1).2.2.1 ∈ mc_tbl := mc_in 112 (by decide +kernel) (by decide +kernel)
theorem fl_17 : Cond.fieldLink RX1 18 (TX1 2).1 (TX1 2).2.1 (TX1 2).2.2.1 ∈ mc_tbl := mc_in 113 (by decide +kernel) (by decide +kernel)
theorem fl_18 : Cond.fieldLink RX1 21 (TX1 3).1 (TX1 3).2.1 (TX1 3).2.2.1 ∈ mc_tbl := mc_in 114 (by decide +kernel) (by decide +kernel)
theorem fl_19 : Cond.fieldLink RX1 24 (TX1 4).1 (TX1 4).2.1 (TX1 4).2.2.1 ∈ mc_tbl := mc_in 115 (by decide +kernel) (by decide +kernel)
theorem fl_20 : Cond.fieldLink RX1 27 (TX1 5).1 (TX1 5).2.1 (TX1 5).2.2.1 ∈ mc_tbl := mc_in 116 (by decide +kernel) (by decide +kernel)
theorem fl_21 : Cond.fieldLink RX1 30 (TX1 6).1 (TX1 6).2.1 (TX1 6).2.2.1 ∈ mc_tbl := mc_in 117 (by decide +kernel) (by decide +kernel)
theorem fl_22 : Cond.fieldLink RX1 33 (TX1 7).1 (TX1 7).2.1 (TX1 7).2.2.1 ∈ mc_tbl := mc_in 118 (by decide +kernel) (by decide +kernel)
theorem fl_23 : Cond.fieldLink RX1 36 (TX1 8).1 (TX1 8).2.1 (TX1 8).2.2.1 ∈ mc_tbl := mc_in 119 (by decide +kernel) (by decide +kernel)
theorem fl_24 : Cond.fieldLink RX1 40 (TX1 9).1 (TX1 9).2.1 (TX1 9).2.2.1 ∈ mc_tbl := mc_in 120 (by decide +kernel) (by decide +kernel)
theorem fl_25 : Cond.fieldLink RX2 11 (TX2 0).1 (TX2 0).2.1 (TX2 0).2.2.1 ∈ mc_tbl := mc_in 99 (by decide +kernel) (by decide +kernel)
theorem fl_26 : Cond.fieldLink RX3 13 (TX3 0).1 (TX3 0).2.1 (TX3 0).2.2.1 ∈ mc_tbl := mc_in 196 (by decide +kernel) (by decide +kernel)
theorem fl_27 : Cond.fieldLink RX3 21 (TX3 1).1 (TX3 1).2.1 (TX3 1).2.2.1 ∈ mc_tbl := mc_in 197 (by decide +kernel) (by decide +kernel)
theorem fl_28 : Cond.fieldLink RX4 9 (TX4 0).1 (TX4 0).2.1 (TX4 0).2.2.1 ∈ mc_tbl := mc_in 176 (by decide +kernel) (by decide +kernel)
theorem fl_29 : Cond.fieldLink RX4 15 (TX4 1).1 (TX4 1).2.1 (TX4 1).2.2.1 ∈ mc_tbl := mc_in 177 (by decide +kernel) (by decide +kernel)
theorem fl_30 : Cond.fieldLink RX4 19 (TX4 2).1 (TX4 2).2.1 (TX4 2).2.2.1 ∈ mc_tbl := mc_in 178 (by decide +kernel) (by decide +kernel)
theorem fl_31 : Cond.fieldLink RX6 7 (TX6 0).1 (TX6 0).2.1 (TX6 0).2.2.1 ∈ mc_tbl := mc_in 619 (by decide +kernel) (by decide +kernel)
theorem fl_32 : Cond.fieldLink RX6 13 (TX6 1).1 (TX6 1).2.1 (TX6 1).2.2.1 ∈ mc_tbl := mc_in 620 (by decide +kernel) (by decide +kernel)
theorem fl_33 : Cond.fieldLink RX6 16 (TX6 3).1 (TX6 3).2.1 (TX6 3).2.2.1 ∈ mc_tbl := mc_in 622 (by decide +kernel) (by decide +kernel)
theorem fl_34 : Cond.fieldLink RX6 19 (TX6 4).1 (TX6 4).2.1 (TX6 4).2.2.1 ∈ mc_tbl := mc_in 623 (by decide +kernel) (by decide +kernel)
theorem fl_35 : Cond.fieldLink RX6 23 (TX6 5).1 (TX6 5).2.1 (TX6 5).2.2.1 ∈ mc_tbl := mc_in 624 (by decide +kernel) (by decide +kernel)
theorem fl_36 : Cond.fieldLink RX6 26 (TX6 7).1 (TX6 7).2.1 (TX6 7).2.2.1 ∈ mc_tbl := mc_in 626 (by decide +kernel) (by decide +kernel)
theorem fl_37 : Cond.fieldLink RX6 29 (TX6 8).1 (TX6 8).2.1 (TX6 8).2.2.1 ∈ mc_tbl := mc_in 627 (by decide +kernel) (by decide +kernel)
theorem fl_38 : Cond.fieldLink RX6 32 (TX6 10).1 (TX6 10).2.1 (TX6 10).2.2.1 ∈ mc_tbl := mc_in 629 (by decide +kernel) (by decide +kernel)
theorem fl_39 : Cond.fieldLink RX6 35 (TX6 11).1 (TX6 11).2.1 (TX6 11).2.2.1 ∈ mc_tbl := mc_in 630 (by decide +kernel) (by decide +kernel)
theorem fl_40 : Cond.fieldLink RX6 38 (TX6 12).1 (TX6 12).2.1 (TX6 12).2.2.1 ∈ mc_tbl := mc_in 631 (by decide +kernel) (by decide +kernel)
theorem fl_41 : Cond.fieldLink RX6 41 (TX6 15).1 (TX6 15).2.1 (TX6 15).2.2.1 ∈ mc_tbl := mc_in 634 (by decide +kernel) (by decide +kernel)
theorem fl_42 : Cond.fieldLink RX6 45 (TX6 16).1 (TX6 16).2.1 (TX6 16).2.2.1 ∈ mc_tbl := mc_in 635 (by decide +kernel) (by decide +kernel)
theorem fl_43 : Cond.fieldLink RX6 48 (TX6 17).1 (TX6 17).2.1 (TX6 17).2.2.1 ∈ mc_tbl := mc_in 636 (by decide +kernel) (by decide +kernel)
theorem fl_44 : Cond.fieldLink RX6 51 (TX6 26).1 (TX6 26).2.1 (TX6 26).2.2.1 ∈ mc_tbl := mc_in 645 (by decide +kernel) (by decide +kernel)
theorem fl_45 : Cond.fieldLink RX6 72 (TX6 9).1 (TX6 9).2.1 (TX6 9).2.2.1 ∈ mc_tbl := mc_in 628 (by decide +kernel) (by decide +kernel)
theorem fl_46 : Cond.fieldLink RX6 97 (TX6 13).1 (TX6 13).2.1 (TX6 13).2.2.1 ∈ mc_tbl := mc_in 632 (by decide +kernel) (by decide +kernel)
theorem fl_47 : Cond.fieldLink RX6 104 (TX6 14).1 (TX6 14).2.1 (TX6 14).2.2.1 ∈ mc_tbl := mc_in 633 (by decide +kernel) (by decide +kernel)
theorem fl_48 : Cond.fieldLink RX6 128 (TX6 18).1 (TX6 18).2.1 (TX6 18).2.2.1 ∈ mc_tbl := mc_in 637 (by decide +kernel) (by decide +kernel)
theorem fl_49 : Cond.fieldLink RX6 132 (TX6 20).1 (TX6 20).2.1 (TX6 20).2.2.1 ∈ mc_tbl := mc_in 639 (by decide +kernel) (by decide +kernel)
theorem fl_50 : Cond.fieldLink RX6 136 (TX6 19).1 (TX6 19).2.1 (TX6 19).2.2.1 ∈ mc_tbl := mc_in 638 (by decide +kernel) (by decide +kernel)
theorem fl_51 : Cond.fieldLink RX6 139 (TX6 22).1 (TX6 22).2.1 (TX6 22).2.2.1 ∈ mc_tbl := mc_in 641 (by decide +kernel) (by decide +kernel)
theorem fl_52 : Cond.fieldLink RX6 142 (TX6 21).1 (TX6 21).2.1 (TX6 21).2.2.1 ∈ mc_tbl := mc_in 640 (by decide +kernel) (by decide +kernel)
theorem fl_53 : Cond.fieldLink RX6 181 (TX6 23).1 (TX6 23).2.1 (TX6 23).2.2.1 ∈ mc_tbl := mc_in 642 (by decide +kernel) (by decide +kernel)
theorem fl_54 : Cond.fieldLink RX6 184 (TX6 6).1 (TX6 6).2.1 (TX6 6).2.2.1 ∈ mc_tbl := mc_in 625 (by decide +kernel) (by decide +kernel)
theorem fl_55 : Cond.fieldLink RX6 187 (TX6 24).1 (TX6 24).2.1 (TX6 24).2.2.1 ∈ mc_tbl := mc_in 643 (by decide +kernel) (by decide +kernel)
theorem fl_56 : Cond.fieldLink RX6 205 (TX6 25).1 (TX6 25).2.1 (TX6 25).2.2.1 ∈ mc_tbl := mc_in 644 (by decide +kernel) (by decide +kernel)
theorem fl_57 : Cond.fieldLink RX6 214 (TX6 2).1 (TX6 2).2.1 (TX6 2).2.2.1 ∈ mc_tbl := mc_in 621 (by decide +kernel) (by decide +kernel)
theorem fl_58 : Cond.fieldLinkNest RX3 31 (TX2 0).1 (TX2 0).2.1 (TX2 0).2.2.1 "RestingBlocks" ∈ mc_tbl := mc_in 100 (by decide +kernel) (by decide +kernel)
theorem kI_X0_74 : Cond.constant RX0 74 (100000) ∈ mc_tbl := mc_in 482 (by decide +kernel) (by decide +kernel)
theorem kI_J6_265 : Cond.constant RJ6 265 (1431655765) ∈ mc_tbl := mc_in 589 (by decide +kernel) (by decide +kernel)
theorem kI_J6_266 : Cond.constant RJ6 266 (858993459) ∈ mc_tbl := mc_in 590 (by decide +kernel) (by decide +kernel)
theorem kI_J6_267 : Cond.constant RJ6 267 (252645135) ∈ mc_tbl := mc_in 591 (by decide +kernel) (by decide +kernel)
theorem kL_X5_149 : Cond.constantLong RX5 149 (-1) ∈ mc_tbl := mc_in 519 (by decide +kernel) (by decide +kernel)
theorem kL_X5_186 : Cond.constantLong RX5 186 (-9) ∈ mc_tbl := mc_in 524 (by decide +kernel) (by decide +kernel)
theorem kL_X5_194 : Cond.constantLong RX5 194 (-5) ∈ mc_tbl := mc_in 541 (by decide +kernel) (by decide +kernel)
theorem kL_X0_72 : Cond.constantLong RX0 72 (-1) ∈ mc_tbl := mc_in 565 (by decide +kernel) (by decide +kernel)
theorem kL_X6_95 : Cond.constantLong RX6 95 (-1) ∈ mc_tbl := mc_in 878 (by decide +kernel) (by decide +kernel)
theorem kL_X6_258 : Cond.constantLong RX6 258 (-9) ∈ mc_tbl := mc_in 933 (by decide +kernel) (by decide +kernel)
theorem kL_X6_260 : Cond.constantLong RX6 260 (-5) ∈ mc_tbl := mc_in 938 (by decide +kernel) (by decide +kernel)
theorem oi_X5 : Cond.methodLink RX5 1 Lib.objectInit ∈ mc_tbl := mc_in 90 (by decide +kernel) (by decide +kernel)
theorem oi_X0 : Cond.methodLink RX0 7 Lib.objectInit ∈ mc_tbl := mc_in 147 (by decide +kernel) (by decide +kernel)
theorem oi_X1 : Cond.methodLink RX1 3 Lib.objectInit ∈ mc_tbl := mc_in 110 (by decide +kernel) (by decide +kernel)
theorem oi_X2 : Cond.methodLink RX2 5 Lib.objectInit ∈ mc_tbl := mc_in 98 (by decide +kernel) (by decide +kernel)
theorem cp_X2 : Cond.methodLink RX2 31 arraycopyName ∈ mc_tbl := mc_in 349 (by decide +kernel) (by decide +kernel)
theorem oi_X3 : Cond.methodLink RX3 1 Lib.objectInit ∈ mc_tbl := mc_in 192 (by decide +kernel) (by decide +kernel)
theorem cp_X3 : Cond.methodLink RX3 34 arraycopyName ∈ mc_tbl := mc_in 337 (by decide +kernel) (by decide +kernel)
theorem oi_X4 : Cond.methodLink RX4 3 Lib.objectInit ∈ mc_tbl := mc_in 175 (by decide +kernel) (by decide +kernel)
theorem oi_X6 : Cond.methodLink RX6 1 Lib.objectInit ∈ mc_tbl := mc_in 618 (by decide +kernel) (by decide +kernel)
theorem cp_nat : Cond.native arraycopyName ∈ mc_tbl := mc_in 339 (by decide +kernel) (by decide +kernel)
theorem cp_stat : Cond.static arraycopyName ∈ mc_tbl := mc_in 338 (by decide +kernel) (by decide +kernel)
theorem cp_ini : Cond.initialized "java/lang/System" ∈ mc_tbl := mc_in 83 (by decide +kernel) (by decide +kernel)
theorem oi_inst : Cond.instanceMethod Lib.objectInit ∈ mc_tbl := mc_in 91 (by decide +kernel) (by decide +kernel)
theorem oi_code : Cond.code Lib.objectInit ⟨#[0xb1]⟩ 1 none ∈ mc_tbl := mc_in 92 (by decide +kernel) (by decide +kernel)
theorem cl_L_7 : Cond.classLink RL 7 RX5 ∈ mc_tbl := mc_in 85 (by decide +kernel) (by decide +kernel)
theorem cl_X5_7 : Cond.classLink RX5 7 RX2 ∈ mc_tbl := mc_in 93 (by decide +kernel) (by decide +kernel)
theorem cl_X5_19 : Cond.classLink RX5 19 RX1 ∈ mc_tbl := mc_in 105 (by decide +kernel) (by decide +kernel)
theorem cl_X5_26 : Cond.classLink RX5 26 RX0 ∈ mc_tbl := mc_in 142 (by decide +kernel) (by decide +kernel)
theorem cl_X0_13 : Cond.classLink RX0 13 "[[J" ∈ mc_tbl := mc_in 148 (by decide +kernel) (by decide +kernel)
theorem cl_X5_33 : Cond.classLink RX5 33 RX4 ∈ mc_tbl := mc_in 170 (by decide +kernel) (by decide +kernel)
theorem cl_X5_40 : Cond.classLink RX5 40 RX3 ∈ mc_tbl := mc_in 187 (by decide +kernel) (by decide +kernel)
theorem cl_L_10 : Cond.classLink RL 10 RX6 ∈ mc_tbl := mc_in 613 (by decide +kernel) (by decide +kernel)
end
section
theorem dX0_init_0 : decode M_X0_init.2.1 0 = .ok (.aload_n 0, 1) := by decide +kernel
theorem dX0_init_1 : decode M_X0_init.2.1 1 = .ok (.invokespecial 7, 3) := by decide +kernel
theorem dX0_init_4 : decode M_X0_init.2.1 4 = .ok (.aload_n 0, 1) := by decide +kernel
theorem dX0_init_5 : decode M_X0_init.2.1 5 = .ok (.bipush 8, 2) := by decide +kernel
theorem dX0_init_7 : decode M_X0_init.2.1 7 = .ok (.bipush 14, 2) := by decide +kernel
theorem dX0_init_9 : decode M_X0_init.2.1 9 = .ok (.multianewarray 13 2, 4) := by decide +kernel
theorem dX0_init_13 : decode M_X0_init.2.1 13 = .ok (.putfield 15, 3) := by decide +kernel
theorem dX0_init_16 : decode M_X0_init.2.1 16 = .ok (.aload_n 0, 1) := by decide +kernel
theorem dX0_init_17 : decode M_X0_init.2.1 17 = .ok (.bipush 8, 2) := by decide +kernel
theorem dX0_init_19 : decode M_X0_init.2.1 19 = .ok (.newarray .int, 2) := by decide +kernel
theorem dX0_init_21 : decode M_X0_init.2.1 21 = .ok (.putfield 18, 3) := by decide +kernel
theorem dX0_init_24 : decode M_X0_init.2.1 24 = .ok (.aload_n 0, 1) := by decide +kernel
theorem dX0_init_25 : decode M_X0_init.2.1 25 = .ok (.iconst 4, 1) := by decide +kernel
theorem dX0_init_26 : decode M_X0_init.2.1 26 = .ok (.newarray .int, 2) := by decide +kernel
theorem dX0_init_28 : decode M_X0_init.2.1 28 = .ok (.putfield 22, 3) := by decide +kernel
theorem dX0_init_31 : decode M_X0_init.2.1 31 = .ok (.aload_n 0, 1) := by decide +kernel
theorem dX0_init_32 : decode M_X0_init.2.1 32 = .ok (.iconst 0, 1) := by decide +kernel
theorem dX0_init_33 : decode M_X0_init.2.1 33 = .ok (.putfield 25, 3) := by decide +kernel
theorem dX0_init_36 : decode M_X0_init.2.1 36 = .ok (.aload_n 0, 1) := by decide +kernel
theorem dX0_init_37 : decode M_X0_init.2.1 37 = .ok (.iconst 0, 1) := by decide +kernel
theorem dX0_init_38 : decode M_X0_init.2.1 38 = .ok (.putfield 29, 3) := by decide +kernel
theorem dX0_init_41 : decode M_X0_init.2.1 41 = .ok (.aload_n 0, 1) := by decide +kernel
theorem dX0_init_42 : decode M_X0_init.2.1 42 = .ok (.lconst 1, 1) := by decide +kernel
theorem dX0_init_43 : decode M_X0_init.2.1 43 = .ok (.putfield 32, 3) := by decide +kernel
theorem dX0_init_46 : decode M_X0_init.2.1 46 = .ok (.return_, 1) := by decide +kernel
theorem dX0_pose_0 : decode M_X0_pose.2.1 0 = .ok (.aload_n 0, 1) := by decide +kernel
theorem dX0_pose_1 : decode M_X0_pose.2.1 1 = .ok (.iconst 0, 1) := by decide +kernel
theorem dX0_pose_2 : decode M_X0_pose.2.1 2 = .ok (.putfield 25, 3) := by decide +kernel
theorem dX0_pose_5 : decode M_X0_pose.2.1 5 = .ok (.aload_n 0, 1) := by decide +kernel
theorem dX0_pose_6 : decode M_X0_pose.2.1 6 = .ok (.aload_n 2, 1) := by decide +kernel
theorem dX0_pose_7 : decode M_X0_pose.2.1 7 = .ok (.invokevirtual 36, 3) := by decide +kernel
theorem dX0_pose_10 : decode M_X0_pose.2.1 10 = .ok (.bipush 12, 2) := by decide +kernel
theorem dX0_pose_12 : decode M_X0_pose.2.1 12 = .ok (.invokestatic 40, 3) := by decide +kernel
theorem dX0_pose_15 : decode M_X0_pose.2.1 15 = .ok (.putfield 29, 3) := by decide +kernel
theorem dX0_pose_18 : decode M_X0_pose.2.1 18 = .ok (.aload_n 0, 1) := by decide +kernel
theorem dX0_pose_19 : decode M_X0_pose.2.1 19 = .ok (.lconst 1, 1) := by decide +kernel
theorem dX0_pose_20 : decode M_X0_pose.2.1 20 = .ok (.putfield 32, 3) := by decide +kernel
theorem dX0_pose_23 : decode M_X0_pose.2.1 23 = .ok (.iconst 0, 1) := by decide +kernel
theorem dX0_pose_24 : decode M_X0_pose.2.1 24 = .ok (.istore 4, 2) := by decide +kernel
theorem dX0_pose_26 : decode M_X0_pose.2.1 26 = .ok (.iload 4, 2) := by decide +kernel
theorem dX0_pose_28 : decode M_X0_pose.2.1 28 = .ok (.aload_n 1, 1) := by decide +kernel
theorem dX0_pose_29 : decode M_X0_pose.2.1 29 = .ok (.invokevirtual 46, 3) := by decide +kernel
theorem dX0_pose_32 : decode M_X0_pose.2.1 32 = .ok (.if_icmp .ge 51, 3) := by decide +kernel
theorem dX0_pose_35 : decode M_X0_pose.2.1 35 = .ok (.iload 4, 2) := by decide +kernel
theorem dX0_pose_37 : decode M_X0_pose.2.1 37 = .ok (.iconst 4, 1) := by decide +kernel
theorem dX0_pose_38 : decode M_X0_pose.2.1 38 = .ok (.if_icmp .ge 45, 3) := by decide +kernel
theorem dX0_pose_41 : decode M_X0_pose.2.1 41 = .ok (.aload_n 0, 1) := by decide +kernel
theorem dX0_pose_42 : decode M_X0_pose.2.1 42 = .ok (.getfield 22, 3) := by decide +kernel
theorem dX0_pose_45 : decode M_X0_pose.2.1 45 = .ok (.iload 4, 2) := by decide +kernel
theorem dX0_pose_47 : decode M_X0_pose.2.1 47 = .ok (.iconst (-1), 1) := by decide +kernel
theorem dX0_pose_48 : decode M_X0_pose.2.1 48 = .ok (.iastore, 1) := by decide +kernel
theorem dX0_pose_49 : decode M_X0_pose.2.1 49 = .ok (.iload_n 3, 1) := by decide +kernel
theorem dX0_pose_50 : decode M_X0_pose.2.1 50 = .ok (.iload 4, 2) := by decide +kernel
theorem dX0_pose_52 : decode M_X0_pose.2.1 52 = .ok (.ishr, 1) := by decide +kernel
theorem dX0_pose_53 : decode M_X0_pose.2.1 53 = .ok (.iconst 1, 1) := by decide +kernel
theorem dX0_pose_54 : decode M_X0_pose.2.1 54 = .ok (.iand, 1) := by decide +kernel
theorem dX0_pose_55 : decode M_X0_pose.2.1 55 = .ok (.ifCond .ne 22, 3) := by decide +kernel
theorem dX0_pose_58 : decode M_X0_pose.2.1 58 = .ok (.aload_n 0, 1) := by decide +kernel
theorem dX0_pose_59 : decode M_X0_pose.2.1 59 = .ok (.getfield 25, 3) := by decide +kernel
theorem dX0_pose_62 : decode M_X0_pose.2.1 62 = .ok (.iconst 2, 1) := by decide +kernel
theorem dX0_pose_63 : decode M_X0_pose.2.1 63 = .ok (.iadd, 1) := by decide +kernel
theorem dX0_pose_64 : decode M_X0_pose.2.1 64 = .ok (.bipush 8, 2) := by decide +kernel
theorem dX0_pose_66 : decode M_X0_pose.2.1 66 = .ok (.if_icmp .gt 11, 3) := by decide +kernel
theorem dX0_pose_69 : decode M_X0_pose.2.1 69 = .ok (.aload_n 0, 1) := by decide +kernel
theorem dX0_pose_70 : decode M_X0_pose.2.1 70 = .ok (.aload_n 1, 1) := by decide +kernel
theorem dX0_pose_71 : decode M_X0_pose.2.1 71 = .ok (.aload_n 2, 1) := by decide +kernel
theorem dX0_pose_72 : decode M_X0_pose.2.1 72 = .ok (.iload 4, 2) := by decide +kernel
theorem dX0_pose_74 : decode M_X0_pose.2.1 74 = .ok (.invokevirtual 51, 3) := by decide +kernel
theorem dX0_pose_77 : decode M_X0_pose.2.1 77 = .ok (.iinc 4 1, 3) := by decide +kernel
theorem dX0_pose_80 : decode M_X0_pose.2.1 80 = .ok (.goto (-54), 3) := by decide +kernel
theorem dX0_pose_83 : decode M_X0_pose.2.1 83 = .ok (.return_, 1) := by decide +kernel
theorem dX0_poseBlock_0 : decode M_X0_poseBlock.2.1 0 = .ok (.aload_n 0, 1) := by decide +kernel
theorem dX0_poseBlock_1 : decode M_X0_poseBlock.2.1 1 = .ok (.getfield 25, 3) := by decide +kernel
theorem dX0_poseBlock_4 : decode M_X0_poseBlock.2.1 4 = .ok (.istore 4, 2) := by decide +kernel
theorem dX0_poseBlock_6 : decode M_X0_poseBlock.2.1 6 = .ok (.aload_n 0, 1) := by decide +kernel
theorem dX0_poseBlock_7 : decode M_X0_poseBlock.2.1 7 = .ok (.dup, 1) := by decide +kernel
theorem dX0_poseBlock_8 : decode M_X0_poseBlock.2.1 8 = .ok (.getfield 25, 3) := by decide +kernel
theorem dX0_poseBlock_11 : decode M_X0_poseBlock.2.1 11 = .ok (.iconst 2, 1) := by decide +kernel
theorem dX0_poseBlock_12 : decode M_X0_poseBlock.2.1 12 = .ok (.iadd, 1) := by decide +kernel
theorem dX0_poseBlock_13 : decode M_X0_poseBlock.2.1 13 = .ok (.putfield 25, 3) := by decide +kernel
theorem dX0_poseBlock_16 : decode M_X0_poseBlock.2.1 16 = .ok (.aload_n 0, 1) := by decide +kernel
theorem dX0_poseBlock_17 : decode M_X0_poseBlock.2.1 17 = .ok (.getfield 22, 3) := by decide +kernel
theorem dX0_poseBlock_20 : decode M_X0_poseBlock.2.1 20 = .ok (.iload_n 3, 1) := by decide +kernel
theorem dX0_poseBlock_21 : decode M_X0_poseBlock.2.1 21 = .ok (.iload 4, 2) := by decide +kernel
theorem dX0_poseBlock_23 : decode M_X0_poseBlock.2.1 23 = .ok (.iastore, 1) := by decide +kernel
theorem dX0_poseBlock_24 : decode M_X0_poseBlock.2.1 24 = .ok (.aload_n 0, 1) := by decide +kernel
theorem dX0_poseBlock_25 : decode M_X0_poseBlock.2.1 25 = .ok (.getfield 18, 3) := by decide +kernel
theorem dX0_poseBlock_28 : decode M_X0_poseBlock.2.1 28 = .ok (.iload 4, 2) := by decide +kernel
theorem dX0_poseBlock_30 : decode M_X0_poseBlock.2.1 30 = .ok (.bipush 13, 2) := by decide +kernel
theorem dX0_poseBlock_32 : decode M_X0_poseBlock.2.1 32 = .ok (.iload 4, 2) := by decide +kernel
theorem dX0_poseBlock_34 : decode M_X0_poseBlock.2.1 34 = .ok (.iadd, 1) := by decide +kernel
theorem dX0_poseBlock_35 : decode M_X0_poseBlock.2.1 35 = .ok (.iastore, 1) := by decide +kernel
theorem dX0_poseBlock_36 : decode M_X0_poseBlock.2.1 36 = .ok (.aload_n 0, 1) := by decide +kernel
theorem dX0_poseBlock_37 : decode M_X0_poseBlock.2.1 37 = .ok (.getfield 18, 3) := by decide +kernel
theorem dX0_poseBlock_40 : decode M_X0_poseBlock.2.1 40 = .ok (.iload 4, 2) := by decide +kernel
theorem dX0_poseBlock_42 : decode M_X0_poseBlock.2.1 42 = .ok (.iconst 1, 1) := by decide +kernel
theorem dX0_poseBlock_43 : decode M_X0_poseBlock.2.1 43 = .ok (.iadd, 1) := by decide +kernel
theorem dX0_poseBlock_44 : decode M_X0_poseBlock.2.1 44 = .ok (.bipush 13, 2) := by decide +kernel
theorem dX0_poseBlock_46 : decode M_X0_poseBlock.2.1 46 = .ok (.iload 4, 2) := by decide +kernel
theorem dX0_poseBlock_48 : decode M_X0_poseBlock.2.1 48 = .ok (.iadd, 1) := by decide +kernel
theorem dX0_poseBlock_49 : decode M_X0_poseBlock.2.1 49 = .ok (.iconst 1, 1) := by decide +kernel
theorem dX0_poseBlock_50 : decode M_X0_poseBlock.2.1 50 = .ok (.iadd, 1) := by decide +kernel
theorem dX0_poseBlock_51 : decode M_X0_poseBlock.2.1 51 = .ok (.iastore, 1) := by decide +kernel
theorem dX0_poseBlock_52 : decode M_X0_poseBlock.2.1 52 = .ok (.iconst 0, 1) := by decide +kernel
theorem dX0_poseBlock_53 : decode M_X0_poseBlock.2.1 53 = .ok (.istore 5, 2) := by decide +kernel
theorem dX0_poseBlock_55 : decode M_X0_poseBlock.2.1 55 = .ok (.iload 5, 2) := by decide +kernel
theorem dX0_poseBlock_57 : decode M_X0_poseBlock.2.1 57 = .ok (.aload_n 0, 1) := by decide +kernel
theorem dX0_poseBlock_58 : decode M_X0_poseBlock.2.1 58 = .ok (.getfield 29, 3) := by decide +kernel
theorem dX0_poseBlock_61 : decode M_X0_poseBlock.2.1 61 = .ok (.if_icmp .ge 82, 3) := by decide +kernel
theorem dX0_poseBlock_64 : decode M_X0_poseBlock.2.1 64 = .ok (.aload_n 2, 1) := by decide +kernel
theorem dX0_poseBlock_65 : decode M_X0_poseBlock.2.1 65 = .ok (.iload 5, 2) := by decide +kernel
theorem dX0_poseBlock_67 : decode M_X0_poseBlock.2.1 67 = .ok (.invokevirtual 55, 3) := by decide +kernel
theorem dX0_poseBlock_70 : decode M_X0_poseBlock.2.1 70 = .ok (.iload_n 3, 1) := by decide +kernel
theorem dX0_poseBlock_71 : decode M_X0_poseBlock.2.1 71 = .ok (.if_icmp .ne 7, 3) := by decide +kernel
theorem dX0_poseBlock_74 : decode M_X0_poseBlock.2.1 74 = .ok (.iconst 1, 1) := by decide +kernel
theorem dX0_poseBlock_75 : decode M_X0_poseBlock.2.1 75 = .ok (.goto 18, 3) := by decide +kernel
theorem dX0_poseBlock_78 : decode M_X0_poseBlock.2.1 78 = .ok (.aload_n 2, 1) := by decide +kernel
theorem dX0_poseBlock_79 : decode M_X0_poseBlock.2.1 79 = .ok (.iload 5, 2) := by decide +kernel
theorem dX0_poseBlock_81 : decode M_X0_poseBlock.2.1 81 = .ok (.invokevirtual 59, 3) := by decide +kernel
theorem dX0_poseBlock_84 : decode M_X0_poseBlock.2.1 84 = .ok (.iload_n 3, 1) := by decide +kernel
theorem dX0_poseBlock_85 : decode M_X0_poseBlock.2.1 85 = .ok (.if_icmp .ne 7, 3) := by decide +kernel
theorem dX0_poseBlock_88 : decode M_X0_poseBlock.2.1 88 = .ok (.iconst (-1), 1) := by decide +kernel
theorem dX0_poseBlock_89 : decode M_X0_poseBlock.2.1 89 = .ok (.goto 4, 3) := by decide +kernel
theorem dX0_poseBlock_92 : decode M_X0_poseBlock.2.1 92 = .ok (.iconst 0, 1) := by decide +kernel
theorem dX0_poseBlock_93 : decode M_X0_poseBlock.2.1 93 = .ok (.istore 6, 2) := by decide +kernel
theorem dX0_poseBlock_95 : decode M_X0_poseBlock.2.1 95 = .ok (.aload_n 0, 1) := by decide +kernel
theorem dX0_poseBlock_96 : decode M_X0_poseBlock.2.1 96 = .ok (.getfield 15, 3) := by decide +kernel
theorem dX0_poseBlock_99 : decode M_X0_poseBlock.2.1 99 = .ok (.iload 4, 2) := by decide +kernel
theorem dX0_poseBlock_101 : decode M_X0_poseBlock.2.1 101 = .ok (.aaload, 1) := by decide +kernel
theorem dX0_poseBlock_102 : decode M_X0_poseBlock.2.1 102 = .ok (.iload 5, 2) := by decide +kernel
theorem dX0_poseBlock_104 : decode M_X0_poseBlock.2.1 104 = .ok (.iload 6, 2) := by decide +kernel
theorem dX0_poseBlock_106 : decode M_X0_poseBlock.2.1 106 = .ok (.i2l, 1) := by decide +kernel
theorem dX0_poseBlock_107 : decode M_X0_poseBlock.2.1 107 = .ok (.lastore, 1) := by decide +kernel
theorem dX0_poseBlock_108 : decode M_X0_poseBlock.2.1 108 = .ok (.aload_n 0, 1) := by decide +kernel
theorem dX0_poseBlock_109 : decode M_X0_poseBlock.2.1 109 = .ok (.getfield 15, 3) := by decide +kernel
theorem dX0_poseBlock_112 : decode M_X0_poseBlock.2.1 112 = .ok (.iload 4, 2) := by decide +kernel
theorem dX0_poseBlock_114 : decode M_X0_poseBlock.2.1 114 = .ok (.iconst 1, 1) := by decide +kernel
theorem dX0_poseBlock_115 : decode M_X0_poseBlock.2.1 115 = .ok (.iadd, 1) := by decide +kernel
theorem dX0_poseBlock_116 : decode M_X0_poseBlock.2.1 116 = .ok (.aaload, 1) := by decide +kernel
theorem dX0_poseBlock_117 : decode M_X0_poseBlock.2.1 117 = .ok (.iload 5, 2) := by decide +kernel
theorem dX0_poseBlock_119 : decode M_X0_poseBlock.2.1 119 = .ok (.iload 6, 2) := by decide +kernel
theorem dX0_poseBlock_121 : decode M_X0_poseBlock.2.1 121 = .ok (.aload_n 2, 1) := by decide +kernel
theorem dX0_poseBlock_122 : decode M_X0_poseBlock.2.1 122 = .ok (.iload 5, 2) := by decide +kernel
theorem dX0_poseBlock_124 : decode M_X0_poseBlock.2.1 124 = .ok (.invokevirtual 62, 3) := by decide +kernel
theorem dX0_poseBlock_127 : decode M_X0_poseBlock.2.1 127 = .ok (.aload_n 1, 1) := by decide +kernel
theorem dX0_poseBlock_128 : decode M_X0_poseBlock.2.1 128 = .ok (.iload_n 3, 1) := by decide +kernel
theorem dX0_poseBlock_129 : decode M_X0_poseBlock.2.1 129 = .ok (.iconst 0, 1) := by decide +kernel
theorem dX0_poseBlock_130 : decode M_X0_poseBlock.2.1 130 = .ok (.invokevirtual 65, 3) := by decide +kernel
theorem dX0_poseBlock_133 : decode M_X0_poseBlock.2.1 133 = .ok (.isub, 1) := by decide +kernel
theorem dX0_poseBlock_134 : decode M_X0_poseBlock.2.1 134 = .ok (.imul, 1) := by decide +kernel
theorem dX0_poseBlock_135 : decode M_X0_poseBlock.2.1 135 = .ok (.i2l, 1) := by decide +kernel
theorem dX0_poseBlock_136 : decode M_X0_poseBlock.2.1 136 = .ok (.lastore, 1) := by decide +kernel
theorem dX0_poseBlock_137 : decode M_X0_poseBlock.2.1 137 = .ok (.iinc 5 1, 3) := by decide +kernel
theorem dX0_poseBlock_140 : decode M_X0_poseBlock.2.1 140 = .ok (.goto (-85), 3) := by decide +kernel
theorem dX0_poseBlock_143 : decode M_X0_poseBlock.2.1 143 = .ok (.aload_n 1, 1) := by decide +kernel
theorem dX0_poseBlock_144 : decode M_X0_poseBlock.2.1 144 = .ok (.iload_n 3, 1) := by decide +kernel
theorem dX0_poseBlock_145 : decode M_X0_poseBlock.2.1 145 = .ok (.iconst 2, 1) := by decide +kernel
theorem dX0_poseBlock_146 : decode M_X0_poseBlock.2.1 146 = .ok (.invokevirtual 65, 3) := by decide +kernel
theorem dX0_poseBlock_149 : decode M_X0_poseBlock.2.1 149 = .ok (.istore 5, 2) := by decide +kernel
theorem dX0_poseBlock_151 : decode M_X0_poseBlock.2.1 151 = .ok (.aload_n 1, 1) := by decide +kernel
theorem dX0_poseBlock_152 : decode M_X0_poseBlock.2.1 152 = .ok (.iload_n 3, 1) := by decide +kernel
theorem dX0_poseBlock_153 : decode M_X0_poseBlock.2.1 153 = .ok (.iconst 3, 1) := by decide +kernel
theorem dX0_poseBlock_154 : decode M_X0_poseBlock.2.1 154 = .ok (.invokevirtual 65, 3) := by decide +kernel
theorem dX0_poseBlock_157 : decode M_X0_poseBlock.2.1 157 = .ok (.istore 6, 2) := by decide +kernel
theorem dX0_poseBlock_159 : decode M_X0_poseBlock.2.1 159 = .ok (.aload_n 0, 1) := by decide +kernel
theorem dX0_poseBlock_160 : decode M_X0_poseBlock.2.1 160 = .ok (.getfield 15, 3) := by decide +kernel
theorem dX0_poseBlock_163 : decode M_X0_poseBlock.2.1 163 = .ok (.iload 4, 2) := by decide +kernel
theorem dX0_poseBlock_165 : decode M_X0_poseBlock.2.1 165 = .ok (.aaload, 1) := by decide +kernel
theorem dX0_poseBlock_166 : decode M_X0_poseBlock.2.1 166 = .ok (.bipush 13, 2) := by decide +kernel
theorem dX0_poseBlock_168 : decode M_X0_poseBlock.2.1 168 = .ok (.iload 5, 2) := by decide +kernel
theorem dX0_poseBlock_170 : decode M_X0_poseBlock.2.1 170 = .ok (.iload 6, 2) := by decide +kernel
theorem dX0_poseBlock_172 : decode M_X0_poseBlock.2.1 172 = .ok (.iadd, 1) := by decide +kernel
theorem dX0_poseBlock_173 : decode M_X0_poseBlock.2.1 173 = .ok (.i2l, 1) := by decide +kernel
theorem dX0_poseBlock_174 : decode M_X0_poseBlock.2.1 174 = .ok (.lastore, 1) := by decide +kernel
theorem dX0_poseBlock_175 : decode M_X0_poseBlock.2.1 175 = .ok (.aload_n 0, 1) := by decide +kernel
theorem dX0_poseBlock_176 : decode M_X0_poseBlock.2.1 176 = .ok (.getfield 15, 3) := by decide +kernel
theorem dX0_poseBlock_179 : decode M_X0_poseBlock.2.1 179 = .ok (.iload 4, 2) := by decide +kernel
theorem dX0_poseBlock_181 : decode M_X0_poseBlock.2.1 181 = .ok (.iconst 1, 1) := by decide +kernel
theorem dX0_poseBlock_182 : decode M_X0_poseBlock.2.1 182 = .ok (.iadd, 1) := by decide +kernel
theorem dX0_poseBlock_183 : decode M_X0_poseBlock.2.1 183 = .ok (.aaload, 1) := by decide +kernel
theorem dX0_poseBlock_184 : decode M_X0_poseBlock.2.1 184 = .ok (.bipush 13, 2) := by decide +kernel
theorem dX0_poseBlock_186 : decode M_X0_poseBlock.2.1 186 = .ok (.iload 5, 2) := by decide +kernel
theorem dX0_poseBlock_188 : decode M_X0_poseBlock.2.1 188 = .ok (.aload_n 1, 1) := by decide +kernel
theorem dX0_poseBlock_189 : decode M_X0_poseBlock.2.1 189 = .ok (.iload_n 3, 1) := by decide +kernel
theorem dX0_poseBlock_190 : decode M_X0_poseBlock.2.1 190 = .ok (.iconst 1, 1) := by decide +kernel
theorem dX0_poseBlock_191 : decode M_X0_poseBlock.2.1 191 = .ok (.invokevirtual 65, 3) := by decide +kernel
theorem dX0_poseBlock_194 : decode M_X0_poseBlock.2.1 194 = .ok (.imul, 1) := by decide +kernel
theorem dX0_poseBlock_195 : decode M_X0_poseBlock.2.1 195 = .ok (.iload 6, 2) := by decide +kernel
theorem dX0_poseBlock_197 : decode M_X0_poseBlock.2.1 197 = .ok (.aload_n 1, 1) := by decide +kernel
theorem dX0_poseBlock_198 : decode M_X0_poseBlock.2.1 198 = .ok (.iload_n 3, 1) := by decide +kernel
theorem dX0_poseBlock_199 : decode M_X0_poseBlock.2.1 199 = .ok (.iconst 4, 1) := by decide +kernel
theorem dX0_poseBlock_200 : decode M_X0_poseBlock.2.1 200 = .ok (.invokevirtual 65, 3) := by decide +kernel
theorem dX0_poseBlock_203 : decode M_X0_poseBlock.2.1 203 = .ok (.imul, 1) := by decide +kernel
theorem dX0_poseBlock_204 : decode M_X0_poseBlock.2.1 204 = .ok (.iadd, 1) := by decide +kernel
theorem dX0_poseBlock_205 : decode M_X0_poseBlock.2.1 205 = .ok (.i2l, 1) := by decide +kernel
theorem dX0_poseBlock_206 : decode M_X0_poseBlock.2.1 206 = .ok (.lastore, 1) := by decide +kernel
theorem dX0_poseBlock_207 : decode M_X0_poseBlock.2.1 207 = .ok (.return_, 1) := by decide +kernel
theorem dX0_poseLoad_0 : decode M_X0_poseLoad.2.1 0 = .ok (.aload_n 0, 1) := by decide +kernel
theorem dX0_poseLoad_1 : decode M_X0_poseLoad.2.1 1 = .ok (.getfield 29, 3) := by decide +kernel
theorem dX0_poseLoad_4 : decode M_X0_poseLoad.2.1 4 = .ok (.istore_n 3, 1) := by decide +kernel
theorem dX0_poseLoad_5 : decode M_X0_poseLoad.2.1 5 = .ok (.iload_n 3, 1) := by decide +kernel
theorem dX0_poseLoad_6 : decode M_X0_poseLoad.2.1 6 = .ok (.bipush 13, 2) := by decide +kernel
theorem dX0_poseLoad_8 : decode M_X0_poseLoad.2.1 8 = .ok (.if_icmp .ge 12, 3) := by decide +kernel
theorem dX0_poseLoad_11 : decode M_X0_poseLoad.2.1 11 = .ok (.iload_n 1, 1) := by decide +kernel
theorem dX0_poseLoad_12 : decode M_X0_poseLoad.2.1 12 = .ok (.iconst 0, 1) := by decide +kernel
theorem dX0_poseLoad_13 : decode M_X0_poseLoad.2.1 13 = .ok (.iconst 3, 1) := by decide +kernel
theorem dX0_poseLoad_14 : decode M_X0_poseLoad.2.1 14 = .ok (.invokestatic 68, 3) := by decide +kernel
theorem dX0_poseLoad_17 : decode M_X0_poseLoad.2.1 17 = .ok (.ifCond .ne 5, 3) := by decide +kernel
theorem dX0_poseLoad_20 : decode M_X0_poseLoad.2.1 20 = .ok (.iconst (-1), 1) := by decide +kernel
theorem dX0_poseLoad_21 : decode M_X0_poseLoad.2.1 21 = .ok (.ireturn, 1) := by decide +kernel
theorem dX0_poseLoad_22 : decode M_X0_poseLoad.2.1 22 = .ok (.iconst 0, 1) := by decide +kernel
theorem dX0_poseLoad_23 : decode M_X0_poseLoad.2.1 23 = .ok (.istore 4, 2) := by decide +kernel
theorem dX0_poseLoad_25 : decode M_X0_poseLoad.2.1 25 = .ok (.iload 4, 2) := by decide +kernel
theorem dX0_poseLoad_27 : decode M_X0_poseLoad.2.1 27 = .ok (.aload_n 0, 1) := by decide +kernel
theorem dX0_poseLoad_28 : decode M_X0_poseLoad.2.1 28 = .ok (.getfield 25, 3) := by decide +kernel
theorem dX0_poseLoad_31 : decode M_X0_poseLoad.2.1 31 = .ok (.if_icmp .ge 19, 3) := by decide +kernel
theorem dX0_poseLoad_34 : decode M_X0_poseLoad.2.1 34 = .ok (.aload_n 0, 1) := by decide +kernel
theorem dX0_poseLoad_35 : decode M_X0_poseLoad.2.1 35 = .ok (.getfield 15, 3) := by decide +kernel
theorem dX0_poseLoad_38 : decode M_X0_poseLoad.2.1 38 = .ok (.iload 4, 2) := by decide +kernel
theorem dX0_poseLoad_40 : decode M_X0_poseLoad.2.1 40 = .ok (.aaload, 1) := by decide +kernel
theorem dX0_poseLoad_41 : decode M_X0_poseLoad.2.1 41 = .ok (.iload_n 3, 1) := by decide +kernel
theorem dX0_poseLoad_42 : decode M_X0_poseLoad.2.1 42 = .ok (.lconst 0, 1) := by decide +kernel
theorem dX0_poseLoad_43 : decode M_X0_poseLoad.2.1 43 = .ok (.lastore, 1) := by decide +kernel
theorem dX0_poseLoad_44 : decode M_X0_poseLoad.2.1 44 = .ok (.iinc 4 1, 3) := by decide +kernel
theorem dX0_poseLoad_47 : decode M_X0_poseLoad.2.1 47 = .ok (.goto (-22), 3) := by decide +kernel
theorem dX0_poseLoad_50 : decode M_X0_poseLoad.2.1 50 = .ok (.aload_n 0, 1) := by decide +kernel
theorem dX0_poseLoad_51 : decode M_X0_poseLoad.2.1 51 = .ok (.getfield 22, 3) := by decide +kernel
theorem dX0_poseLoad_54 : decode M_X0_poseLoad.2.1 54 = .ok (.iload_n 1, 1) := by decide +kernel
theorem dX0_poseLoad_55 : decode M_X0_poseLoad.2.1 55 = .ok (.iaload, 1) := by decide +kernel
theorem dX0_poseLoad_56 : decode M_X0_poseLoad.2.1 56 = .ok (.istore 4, 2) := by decide +kernel
theorem dX0_poseLoad_58 : decode M_X0_poseLoad.2.1 58 = .ok (.iload 4, 2) := by decide +kernel
theorem dX0_poseLoad_60 : decode M_X0_poseLoad.2.1 60 = .ok (.ifCond .lt 40, 3) := by decide +kernel
theorem dX0_poseLoad_63 : decode M_X0_poseLoad.2.1 63 = .ok (.iload 4, 2) := by decide +kernel
theorem dX0_poseLoad_65 : decode M_X0_poseLoad.2.1 65 = .ok (.iconst 1, 1) := by decide +kernel
theorem dX0_poseLoad_66 : decode M_X0_poseLoad.2.1 66 = .ok (.iadd, 1) := by decide +kernel
theorem dX0_poseLoad_67 : decode M_X0_poseLoad.2.1 67 = .ok (.aload_n 0, 1) := by decide +kernel
theorem dX0_poseLoad_68 : decode M_X0_poseLoad.2.1 68 = .ok (.getfield 25, 3) := by decide +kernel
theorem dX0_poseLoad_71 : decode M_X0_poseLoad.2.1 71 = .ok (.if_icmp .ge 29, 3) := by decide +kernel
theorem dX0_poseLoad_74 : decode M_X0_poseLoad.2.1 74 = .ok (.aload_n 0, 1) := by decide +kernel
theorem dX0_poseLoad_75 : decode M_X0_poseLoad.2.1 75 = .ok (.getfield 15, 3) := by decide +kernel
theorem dX0_poseLoad_78 : decode M_X0_poseLoad.2.1 78 = .ok (.iload 4, 2) := by decide +kernel
theorem dX0_poseLoad_80 : decode M_X0_poseLoad.2.1 80 = .ok (.aaload, 1) := by decide +kernel
theorem dX0_poseLoad_81 : decode M_X0_poseLoad.2.1 81 = .ok (.iload_n 3, 1) := by decide +kernel
theorem dX0_poseLoad_82 : decode M_X0_poseLoad.2.1 82 = .ok (.ldc2_w 72, 3) := by decide +kernel
theorem dX0_poseLoad_85 : decode M_X0_poseLoad.2.1 85 = .ok (.lastore, 1) := by decide +kernel
theorem dX0_poseLoad_86 : decode M_X0_poseLoad.2.1 86 = .ok (.aload_n 0, 1) := by decide +kernel
theorem dX0_poseLoad_87 : decode M_X0_poseLoad.2.1 87 = .ok (.getfield 15, 3) := by decide +kernel
theorem dX0_poseLoad_90 : decode M_X0_poseLoad.2.1 90 = .ok (.iload 4, 2) := by decide +kernel
theorem dX0_poseLoad_92 : decode M_X0_poseLoad.2.1 92 = .ok (.iconst 1, 1) := by decide +kernel
theorem dX0_poseLoad_93 : decode M_X0_poseLoad.2.1 93 = .ok (.iadd, 1) := by decide +kernel
theorem dX0_poseLoad_94 : decode M_X0_poseLoad.2.1 94 = .ok (.aaload, 1) := by decide +kernel
theorem dX0_poseLoad_95 : decode M_X0_poseLoad.2.1 95 = .ok (.iload_n 3, 1) := by decide +kernel
theorem dX0_poseLoad_96 : decode M_X0_poseLoad.2.1 96 = .ok (.iload_n 2, 1) := by decide +kernel
theorem dX0_poseLoad_97 : decode M_X0_poseLoad.2.1 97 = .ok (.ineg, 1) := by decide +kernel
theorem dX0_poseLoad_98 : decode M_X0_poseLoad.2.1 98 = .ok (.i2l, 1) := by decide +kernel
theorem dX0_poseLoad_99 : decode M_X0_poseLoad.2.1 99 = .ok (.lastore, 1) := by decide +kernel
theorem dX0_poseLoad_100 : decode M_X0_poseLoad.2.1 100 = .ok (.aload_n 0, 1) := by decide +kernel
theorem dX0_poseLoad_101 : decode M_X0_poseLoad.2.1 101 = .ok (.dup, 1) := by decide +kernel
theorem dX0_poseLoad_102 : decode M_X0_poseLoad.2.1 102 = .ok (.getfield 29, 3) := by decide +kernel
theorem dX0_poseLoad_105 : decode M_X0_poseLoad.2.1 105 = .ok (.iconst 1, 1) := by decide +kernel
theorem dX0_poseLoad_106 : decode M_X0_poseLoad.2.1 106 = .ok (.iadd, 1) := by decide +kernel
theorem dX0_poseLoad_107 : decode M_X0_poseLoad.2.1 107 = .ok (.putfield 29, 3) := by decide +kernel
theorem dX0_poseLoad_110 : decode M_X0_poseLoad.2.1 110 = .ok (.iload_n 3, 1) := by decide +kernel
theorem dX0_poseLoad_111 : decode M_X0_poseLoad.2.1 111 = .ok (.ireturn, 1) := by decide +kernel
theorem dX0_solve_0 : decode M_X0_solve.2.1 0 = .ok (.iconst 0, 1) := by decide +kernel
theorem dX0_solve_1 : decode M_X0_solve.2.1 1 = .ok (.istore_n 1, 1) := by decide +kernel
theorem dX0_solve_2 : decode M_X0_solve.2.1 2 = .ok (.iload_n 1, 1) := by decide +kernel
theorem dX0_solve_3 : decode M_X0_solve.2.1 3 = .ok (.ldc 74, 2) := by decide +kernel
theorem dX0_solve_5 : decode M_X0_solve.2.1 5 = .ok (.if_icmp .ge 33, 3) := by decide +kernel
theorem dX0_solve_8 : decode M_X0_solve.2.1 8 = .ok (.aload_n 0, 1) := by decide +kernel
theorem dX0_solve_9 : decode M_X0_solve.2.1 9 = .ok (.invokevirtual 75, 3) := by decide +kernel
theorem dX0_solve_12 : decode M_X0_solve.2.1 12 = .ok (.istore_n 2, 1) := by decide +kernel
theorem dX0_solve_13 : decode M_X0_solve.2.1 13 = .ok (.aload_n 0, 1) := by decide +kernel
theorem dX0_solve_14 : decode M_X0_solve.2.1 14 = .ok (.iload_n 2, 1) := by decide +kernel
theorem dX0_solve_15 : decode M_X0_solve.2.1 15 = .ok (.invokevirtual 78, 3) := by decide +kernel
theorem dX0_solve_18 : decode M_X0_solve.2.1 18 = .ok (.istore_n 3, 1) := by decide +kernel
theorem dX0_solve_19 : decode M_X0_solve.2.1 19 = .ok (.iload_n 3, 1) := by decide +kernel
theorem dX0_solve_20 : decode M_X0_solve.2.1 20 = .ok (.ifCond .ge 6, 3) := by decide +kernel
theorem dX0_solve_23 : decode M_X0_solve.2.1 23 = .ok (.goto 15, 3) := by decide +kernel
theorem dX0_solve_26 : decode M_X0_solve.2.1 26 = .ok (.aload_n 0, 1) := by decide +kernel
theorem dX0_solve_27 : decode M_X0_solve.2.1 27 = .ok (.iload_n 3, 1) := by decide +kernel
theorem dX0_solve_28 : decode M_X0_solve.2.1 28 = .ok (.iload_n 2, 1) := by decide +kernel
theorem dX0_solve_29 : decode M_X0_solve.2.1 29 = .ok (.invokevirtual 81, 3) := by decide +kernel
theorem dX0_solve_32 : decode M_X0_solve.2.1 32 = .ok (.iinc 1 1, 3) := by decide +kernel
theorem dX0_solve_35 : decode M_X0_solve.2.1 35 = .ok (.goto (-33), 3) := by decide +kernel
theorem dX0_solve_38 : decode M_X0_solve.2.1 38 = .ok (.aload_n 0, 1) := by decide +kernel
theorem dX0_solve_39 : decode M_X0_solve.2.1 39 = .ok (.bipush 13, 2) := by decide +kernel
theorem dX0_solve_41 : decode M_X0_solve.2.1 41 = .ok (.invokevirtual 85, 3) := by decide +kernel
theorem dX0_solve_44 : decode M_X0_solve.2.1 44 = .ok (.lconst 0, 1) := by decide +kernel
theorem dX0_solve_45 : decode M_X0_solve.2.1 45 = .ok (.lcmp, 1) := by decide +kernel
theorem dX0_solve_46 : decode M_X0_solve.2.1 46 = .ok (.ifCond .eq 5, 3) := by decide +kernel
theorem dX0_solve_49 : decode M_X0_solve.2.1 49 = .ok (.iconst 0, 1) := by decide +kernel
theorem dX0_solve_50 : decode M_X0_solve.2.1 50 = .ok (.ireturn, 1) := by decide +kernel
theorem dX0_solve_51 : decode M_X0_solve.2.1 51 = .ok (.aload_n 0, 1) := by decide +kernel
theorem dX0_solve_52 : decode M_X0_solve.2.1 52 = .ok (.invokevirtual 89, 3) := by decide +kernel
theorem dX0_solve_55 : decode M_X0_solve.2.1 55 = .ok (.iconst 1, 1) := by decide +kernel
theorem dX0_solve_56 : decode M_X0_solve.2.1 56 = .ok (.ireturn, 1) := by decide +kernel
theorem dX0_makeshift_0 : decode M_X0_makeshift.2.1 0 = .ok (.lconst 0, 1) := by decide +kernel
theorem dX0_makeshift_1 : decode M_X0_makeshift.2.1 1 = .ok (.lstore_n 2, 1) := by decide +kernel
theorem dX0_makeshift_2 : decode M_X0_makeshift.2.1 2 = .ok (.iconst 0, 1) := by decide +kernel
theorem dX0_makeshift_3 : decode M_X0_makeshift.2.1 3 = .ok (.istore 4, 2) := by decide +kernel
theorem dX0_makeshift_5 : decode M_X0_makeshift.2.1 5 = .ok (.iload 4, 2) := by decide +kernel
theorem dX0_makeshift_7 : decode M_X0_makeshift.2.1 7 = .ok (.aload_n 0, 1) := by decide +kernel
theorem dX0_makeshift_8 : decode M_X0_makeshift.2.1 8 = .ok (.getfield 25, 3) := by decide +kernel
theorem dX0_makeshift_11 : decode M_X0_makeshift.2.1 11 = .ok (.if_icmp .ge 33, 3) := by decide +kernel
theorem dX0_makeshift_14 : decode M_X0_makeshift.2.1 14 = .ok (.aload_n 0, 1) := by decide +kernel
theorem dX0_makeshift_15 : decode M_X0_makeshift.2.1 15 = .ok (.getfield 18, 3) := by decide +kernel
theorem dX0_makeshift_18 : decode M_X0_makeshift.2.1 18 = .ok (.iload 4, 2) := by decide +kernel
theorem dX0_makeshift_20 : decode M_X0_makeshift.2.1 20 = .ok (.iaload, 1) := by decide +kernel
theorem dX0_makeshift_21 : decode M_X0_makeshift.2.1 21 = .ok (.bipush 13, 2) := by decide +kernel
theorem dX0_makeshift_23 : decode M_X0_makeshift.2.1 23 = .ok (.if_icmp .lt 15, 3) := by decide +kernel
theorem dX0_makeshift_26 : decode M_X0_makeshift.2.1 26 = .ok (.lload_n 2, 1) := by decide +kernel
theorem dX0_makeshift_27 : decode M_X0_makeshift.2.1 27 = .ok (.aload_n 0, 1) := by decide +kernel
theorem dX0_makeshift_28 : decode M_X0_makeshift.2.1 28 = .ok (.getfield 15, 3) := by decide +kernel
theorem dX0_makeshift_31 : decode M_X0_makeshift.2.1 31 = .ok (.iload 4, 2) := by decide +kernel
theorem dX0_makeshift_33 : decode M_X0_makeshift.2.1 33 = .ok (.aaload, 1) := by decide +kernel
theorem dX0_makeshift_34 : decode M_X0_makeshift.2.1 34 = .ok (.iload_n 1, 1) := by decide +kernel
theorem dX0_makeshift_35 : decode M_X0_makeshift.2.1 35 = .ok (.laload, 1) := by decide +kernel
theorem dX0_makeshift_36 : decode M_X0_makeshift.2.1 36 = .ok (.ladd, 1) := by decide +kernel
theorem dX0_makeshift_37 : decode M_X0_makeshift.2.1 37 = .ok (.lstore_n 2, 1) := by decide +kernel
theorem dX0_makeshift_38 : decode M_X0_makeshift.2.1 38 = .ok (.iinc 4 1, 3) := by decide +kernel
theorem dX0_makeshift_41 : decode M_X0_makeshift.2.1 41 = .ok (.goto (-36), 3) := by decide +kernel
theorem dX0_makeshift_44 : decode M_X0_makeshift.2.1 44 = .ok (.lload_n 2, 1) := by decide +kernel
theorem dX0_makeshift_45 : decode M_X0_makeshift.2.1 45 = .ok (.lreturn, 1) := by decide +kernel
theorem dX0_firstThatLessensMakeshift_0 : decode M_X0_firstThatLessensMakeshift.2.1 0 = .ok (.iconst 0, 1) := by decide +kernel
theorem dX0_firstThatLessensMakeshift_1 : decode M_X0_firstThatLessensMakeshift.2.1 1 = .ok (.istore_n 1, 1) := by decide +kernel
theorem dX0_firstThatLessensMakeshift_2 : decode M_X0_firstThatLessensMakeshift.2.1 2 = .ok (.iload_n 1, 1) := by decide +kernel
theorem dX0_firstThatLessensMakeshift_3 : decode M_X0_firstThatLessensMakeshift.2.1 3 = .ok (.aload_n 0, 1) := by decide +kernel
theorem dX0_firstThatLessensMakeshift_4 : decode M_X0_firstThatLessensMakeshift.2.1 4 = .ok (.getfield 29, 3) := by decide +kernel
theorem dX0_firstThatLessensMakeshift_7 : decode M_X0_firstThatLessensMakeshift.2.1 7 = .ok (.if_icmp .ge 21, 3) := by decide +kernel
theorem dX0_firstThatLessensMakeshift_10 : decode M_X0_firstThatLessensMakeshift.2.1 10 = .ok (.aload_n 0, 1) := by decide +kernel
theorem dX0_firstThatLessensMakeshift_11 : decode M_X0_firstThatLessensMakeshift.2.1 11 = .ok (.iload_n 1, 1) := by decide +kernel
theorem dX0_firstThatLessensMakeshift_12 : decode M_X0_firstThatLessensMakeshift.2.1 12 = .ok (.invokevirtual 85, 3) := by decide +kernel
theorem dX0_firstThatLessensMakeshift_15 : decode M_X0_firstThatLessensMakeshift.2.1 15 = .ok (.lconst 0, 1) := by decide +kernel
theorem dX0_firstThatLessensMakeshift_16 : decode M_X0_firstThatLessensMakeshift.2.1 16 = .ok (.lcmp, 1) := by decide +kernel
theorem dX0_firstThatLessensMakeshift_17 : decode M_X0_firstThatLessensMakeshift.2.1 17 = .ok (.ifCond .le 5, 3) := by decide +kernel
theorem dX0_firstThatLessensMakeshift_20 : decode M_X0_firstThatLessensMakeshift.2.1 20 = .ok (.iload_n 1, 1) := by decide +kernel
theorem dX0_firstThatLessensMakeshift_21 : decode M_X0_firstThatLessensMakeshift.2.1 21 = .ok (.ireturn, 1) := by decide +kernel
theorem dX0_firstThatLessensMakeshift_22 : decode M_X0_firstThatLessensMakeshift.2.1 22 = .ok (.iinc 1 1, 3) := by decide +kernel
theorem dX0_firstThatLessensMakeshift_25 : decode M_X0_firstThatLessensMakeshift.2.1 25 = .ok (.goto (-23), 3) := by decide +kernel
theorem dX0_firstThatLessensMakeshift_28 : decode M_X0_firstThatLessensMakeshift.2.1 28 = .ok (.iconst (-1), 1) := by decide +kernel
theorem dX0_firstThatLessensMakeshift_29 : decode M_X0_firstThatLessensMakeshift.2.1 29 = .ok (.ireturn, 1) := by decide +kernel
theorem dX0_driveOutMakeshift_0 : decode M_X0_driveOutMakeshift.2.1 0 = .ok (.iconst 0, 1) := by decide +kernel
theorem dX0_driveOutMakeshift_1 : decode M_X0_driveOutMakeshift.2.1 1 = .ok (.istore_n 1, 1) := by decide +kernel
theorem dX0_driveOutMakeshift_2 : decode M_X0_driveOutMakeshift.2.1 2 = .ok (.iload_n 1, 1) := by decide +kernel
theorem dX0_driveOutMakeshift_3 : decode M_X0_driveOutMakeshift.2.1 3 = .ok (.aload_n 0, 1) := by decide +kernel
theorem dX0_driveOutMakeshift_4 : decode M_X0_driveOutMakeshift.2.1 4 = .ok (.getfield 25, 3) := by decide +kernel
theorem dX0_driveOutMakeshift_7 : decode M_X0_driveOutMakeshift.2.1 7 = .ok (.if_icmp .ge 55, 3) := by decide +kernel
theorem dX0_driveOutMakeshift_10 : decode M_X0_driveOutMakeshift.2.1 10 = .ok (.iconst 0, 1) := by decide +kernel
theorem dX0_driveOutMakeshift_11 : decode M_X0_driveOutMakeshift.2.1 11 = .ok (.istore_n 2, 1) := by decide +kernel
theorem dX0_driveOutMakeshift_12 : decode M_X0_driveOutMakeshift.2.1 12 = .ok (.iload_n 2, 1) := by decide +kernel
theorem dX0_driveOutMakeshift_13 : decode M_X0_driveOutMakeshift.2.1 13 = .ok (.aload_n 0, 1) := by decide +kernel
theorem dX0_driveOutMakeshift_14 : decode M_X0_driveOutMakeshift.2.1 14 = .ok (.getfield 29, 3) := by decide +kernel
theorem dX0_driveOutMakeshift_17 : decode M_X0_driveOutMakeshift.2.1 17 = .ok (.if_icmp .ge 39, 3) := by decide +kernel
theorem dX0_driveOutMakeshift_20 : decode M_X0_driveOutMakeshift.2.1 20 = .ok (.aload_n 0, 1) := by decide +kernel
theorem dX0_driveOutMakeshift_21 : decode M_X0_driveOutMakeshift.2.1 21 = .ok (.getfield 18, 3) := by decide +kernel
theorem dX0_driveOutMakeshift_24 : decode M_X0_driveOutMakeshift.2.1 24 = .ok (.iload_n 1, 1) := by decide +kernel
theorem dX0_driveOutMakeshift_25 : decode M_X0_driveOutMakeshift.2.1 25 = .ok (.iaload, 1) := by decide +kernel
theorem dX0_driveOutMakeshift_26 : decode M_X0_driveOutMakeshift.2.1 26 = .ok (.bipush 13, 2) := by decide +kernel
theorem dX0_driveOutMakeshift_28 : decode M_X0_driveOutMakeshift.2.1 28 = .ok (.if_icmp .lt 28, 3) := by decide +kernel
theorem dX0_driveOutMakeshift_31 : decode M_X0_driveOutMakeshift.2.1 31 = .ok (.aload_n 0, 1) := by decide +kernel
theorem dX0_driveOutMakeshift_32 : decode M_X0_driveOutMakeshift.2.1 32 = .ok (.getfield 15, 3) := by decide +kernel
theorem dX0_driveOutMakeshift_35 : decode M_X0_driveOutMakeshift.2.1 35 = .ok (.iload_n 1, 1) := by decide +kernel
theorem dX0_driveOutMakeshift_36 : decode M_X0_driveOutMakeshift.2.1 36 = .ok (.aaload, 1) := by decide +kernel
theorem dX0_driveOutMakeshift_37 : decode M_X0_driveOutMakeshift.2.1 37 = .ok (.iload_n 2, 1) := by decide +kernel
theorem dX0_driveOutMakeshift_38 : decode M_X0_driveOutMakeshift.2.1 38 = .ok (.laload, 1) := by decide +kernel
theorem dX0_driveOutMakeshift_39 : decode M_X0_driveOutMakeshift.2.1 39 = .ok (.lconst 0, 1) := by decide +kernel
theorem dX0_driveOutMakeshift_40 : decode M_X0_driveOutMakeshift.2.1 40 = .ok (.lcmp, 1) := by decide +kernel
theorem dX0_driveOutMakeshift_41 : decode M_X0_driveOutMakeshift.2.1 41 = .ok (.ifCond .eq 9, 3) := by decide +kernel
theorem dX0_driveOutMakeshift_44 : decode M_X0_driveOutMakeshift.2.1 44 = .ok (.aload_n 0, 1) := by decide +kernel
theorem dX0_driveOutMakeshift_45 : decode M_X0_driveOutMakeshift.2.1 45 = .ok (.iload_n 1, 1) := by decide +kernel
theorem dX0_driveOutMakeshift_46 : decode M_X0_driveOutMakeshift.2.1 46 = .ok (.iload_n 2, 1) := by decide +kernel
theorem dX0_driveOutMakeshift_47 : decode M_X0_driveOutMakeshift.2.1 47 = .ok (.invokevirtual 81, 3) := by decide +kernel
theorem dX0_driveOutMakeshift_50 : decode M_X0_driveOutMakeshift.2.1 50 = .ok (.iinc 2 1, 3) := by decide +kernel
theorem dX0_driveOutMakeshift_53 : decode M_X0_driveOutMakeshift.2.1 53 = .ok (.goto (-41), 3) := by decide +kernel
theorem dX0_driveOutMakeshift_56 : decode M_X0_driveOutMakeshift.2.1 56 = .ok (.iinc 1 1, 3) := by decide +kernel
theorem dX0_driveOutMakeshift_59 : decode M_X0_driveOutMakeshift.2.1 59 = .ok (.goto (-57), 3) := by decide +kernel
theorem dX0_driveOutMakeshift_62 : decode M_X0_driveOutMakeshift.2.1 62 = .ok (.return_, 1) := by decide +kernel
theorem dX0_makeLeast_0 : decode M_X0_makeLeast.2.1 0 = .ok (.iconst 0, 1) := by decide +kernel
theorem dX0_makeLeast_1 : decode M_X0_makeLeast.2.1 1 = .ok (.istore_n 2, 1) := by decide +kernel
theorem dX0_makeLeast_2 : decode M_X0_makeLeast.2.1 2 = .ok (.iload_n 2, 1) := by decide +kernel
theorem dX0_makeLeast_3 : decode M_X0_makeLeast.2.1 3 = .ok (.ldc 74, 2) := by decide +kernel
theorem dX0_makeLeast_5 : decode M_X0_makeLeast.2.1 5 = .ok (.if_icmp .ge 41, 3) := by decide +kernel
theorem dX0_makeLeast_8 : decode M_X0_makeLeast.2.1 8 = .ok (.aload_n 0, 1) := by decide +kernel
theorem dX0_makeLeast_9 : decode M_X0_makeLeast.2.1 9 = .ok (.aload_n 0, 1) := by decide +kernel
theorem dX0_makeLeast_10 : decode M_X0_makeLeast.2.1 10 = .ok (.iload_n 1, 1) := by decide +kernel
theorem dX0_makeLeast_11 : decode M_X0_makeLeast.2.1 11 = .ok (.invokevirtual 92, 3) := by decide +kernel
theorem dX0_makeLeast_14 : decode M_X0_makeLeast.2.1 14 = .ok (.iload_n 1, 1) := by decide +kernel
theorem dX0_makeLeast_15 : decode M_X0_makeLeast.2.1 15 = .ok (.iconst 1, 1) := by decide +kernel
theorem dX0_makeLeast_16 : decode M_X0_makeLeast.2.1 16 = .ok (.invokevirtual 95, 3) := by decide +kernel
theorem dX0_makeLeast_19 : decode M_X0_makeLeast.2.1 19 = .ok (.istore_n 3, 1) := by decide +kernel
theorem dX0_makeLeast_20 : decode M_X0_makeLeast.2.1 20 = .ok (.aload_n 0, 1) := by decide +kernel
theorem dX0_makeLeast_21 : decode M_X0_makeLeast.2.1 21 = .ok (.iload_n 3, 1) := by decide +kernel
theorem dX0_makeLeast_22 : decode M_X0_makeLeast.2.1 22 = .ok (.invokevirtual 78, 3) := by decide +kernel
theorem dX0_makeLeast_25 : decode M_X0_makeLeast.2.1 25 = .ok (.istore 4, 2) := by decide +kernel
theorem dX0_makeLeast_27 : decode M_X0_makeLeast.2.1 27 = .ok (.iload 4, 2) := by decide +kernel
theorem dX0_makeLeast_29 : decode M_X0_makeLeast.2.1 29 = .ok (.ifCond .ge 4, 3) := by decide +kernel
theorem dX0_makeLeast_32 : decode M_X0_makeLeast.2.1 32 = .ok (.return_, 1) := by decide +kernel
theorem dX0_makeLeast_33 : decode M_X0_makeLeast.2.1 33 = .ok (.aload_n 0, 1) := by decide +kernel
theorem dX0_makeLeast_34 : decode M_X0_makeLeast.2.1 34 = .ok (.iload 4, 2) := by decide +kernel
theorem dX0_makeLeast_36 : decode M_X0_makeLeast.2.1 36 = .ok (.iload_n 3, 1) := by decide +kernel
theorem dX0_makeLeast_37 : decode M_X0_makeLeast.2.1 37 = .ok (.invokevirtual 81, 3) := by decide +kernel
theorem dX0_makeLeast_40 : decode M_X0_makeLeast.2.1 40 = .ok (.iinc 2 1, 3) := by decide +kernel
theorem dX0_makeLeast_43 : decode M_X0_makeLeast.2.1 43 = .ok (.goto (-41), 3) := by decide +kernel
theorem dX0_makeLeast_46 : decode M_X0_makeLeast.2.1 46 = .ok (.return_, 1) := by decide +kernel
theorem dX0_makeGreatest_0 : decode M_X0_makeGreatest.2.1 0 = .ok (.aload_n 0, 1) := by decide +kernel
theorem dX0_makeGreatest_1 : decode M_X0_makeGreatest.2.1 1 = .ok (.iload_n 1, 1) := by decide +kernel
theorem dX0_makeGreatest_2 : decode M_X0_makeGreatest.2.1 2 = .ok (.invokevirtual 92, 3) := by decide +kernel
theorem dX0_makeGreatest_5 : decode M_X0_makeGreatest.2.1 5 = .ok (.ifCond .ge 21, 3) := by decide +kernel
theorem dX0_makeGreatest_8 : decode M_X0_makeGreatest.2.1 8 = .ok (.aload_n 0, 1) := by decide +kernel
theorem dX0_makeGreatest_9 : decode M_X0_makeGreatest.2.1 9 = .ok (.iload_n 1, 1) := by decide +kernel
theorem dX0_makeGreatest_10 : decode M_X0_makeGreatest.2.1 10 = .ok (.invokevirtual 78, 3) := by decide +kernel
theorem dX0_makeGreatest_13 : decode M_X0_makeGreatest.2.1 13 = .ok (.istore_n 2, 1) := by decide +kernel
theorem dX0_makeGreatest_14 : decode M_X0_makeGreatest.2.1 14 = .ok (.iload_n 2, 1) := by decide +kernel
theorem dX0_makeGreatest_15 : decode M_X0_makeGreatest.2.1 15 = .ok (.ifCond .ge 5, 3) := by decide +kernel
theorem dX0_makeGreatest_18 : decode M_X0_makeGreatest.2.1 18 = .ok (.iconst 0, 1) := by decide +kernel
theorem dX0_makeGreatest_19 : decode M_X0_makeGreatest.2.1 19 = .ok (.ireturn, 1) := by decide +kernel
theorem dX0_makeGreatest_20 : decode M_X0_makeGreatest.2.1 20 = .ok (.aload_n 0, 1) := by decide +kernel
theorem dX0_makeGreatest_21 : decode M_X0_makeGreatest.2.1 21 = .ok (.iload_n 2, 1) := by decide +kernel
theorem dX0_makeGreatest_22 : decode M_X0_makeGreatest.2.1 22 = .ok (.iload_n 1, 1) := by decide +kernel
theorem dX0_makeGreatest_23 : decode M_X0_makeGreatest.2.1 23 = .ok (.invokevirtual 81, 3) := by decide +kernel
theorem dX0_makeGreatest_26 : decode M_X0_makeGreatest.2.1 26 = .ok (.iconst 0, 1) := by decide +kernel
theorem dX0_makeGreatest_27 : decode M_X0_makeGreatest.2.1 27 = .ok (.istore_n 2, 1) := by decide +kernel
theorem dX0_makeGreatest_28 : decode M_X0_makeGreatest.2.1 28 = .ok (.iload_n 2, 1) := by decide +kernel
theorem dX0_makeGreatest_29 : decode M_X0_makeGreatest.2.1 29 = .ok (.ldc 74, 2) := by decide +kernel
theorem dX0_makeGreatest_31 : decode M_X0_makeGreatest.2.1 31 = .ok (.if_icmp .ge 48, 3) := by decide +kernel
theorem dX0_makeGreatest_34 : decode M_X0_makeGreatest.2.1 34 = .ok (.aload_n 0, 1) := by decide +kernel
theorem dX0_makeGreatest_35 : decode M_X0_makeGreatest.2.1 35 = .ok (.aload_n 0, 1) := by decide +kernel
theorem dX0_makeGreatest_36 : decode M_X0_makeGreatest.2.1 36 = .ok (.iload_n 1, 1) := by decide +kernel
theorem dX0_makeGreatest_37 : decode M_X0_makeGreatest.2.1 37 = .ok (.invokevirtual 92, 3) := by decide +kernel
theorem dX0_makeGreatest_40 : decode M_X0_makeGreatest.2.1 40 = .ok (.iload_n 1, 1) := by decide +kernel
theorem dX0_makeGreatest_41 : decode M_X0_makeGreatest.2.1 41 = .ok (.iconst (-1), 1) := by decide +kernel
theorem dX0_makeGreatest_42 : decode M_X0_makeGreatest.2.1 42 = .ok (.invokevirtual 95, 3) := by decide +kernel
theorem dX0_makeGreatest_45 : decode M_X0_makeGreatest.2.1 45 = .ok (.istore_n 3, 1) := by decide +kernel
theorem dX0_makeGreatest_46 : decode M_X0_makeGreatest.2.1 46 = .ok (.iload_n 3, 1) := by decide +kernel
theorem dX0_makeGreatest_47 : decode M_X0_makeGreatest.2.1 47 = .ok (.ifCond .ge 5, 3) := by decide +kernel
theorem dX0_makeGreatest_50 : decode M_X0_makeGreatest.2.1 50 = .ok (.iconst 1, 1) := by decide +kernel
theorem dX0_makeGreatest_51 : decode M_X0_makeGreatest.2.1 51 = .ok (.ireturn, 1) := by decide +kernel
theorem dX0_makeGreatest_52 : decode M_X0_makeGreatest.2.1 52 = .ok (.aload_n 0, 1) := by decide +kernel
theorem dX0_makeGreatest_53 : decode M_X0_makeGreatest.2.1 53 = .ok (.iload_n 3, 1) := by decide +kernel
theorem dX0_makeGreatest_54 : decode M_X0_makeGreatest.2.1 54 = .ok (.invokevirtual 78, 3) := by decide +kernel
theorem dX0_makeGreatest_57 : decode M_X0_makeGreatest.2.1 57 = .ok (.istore 4, 2) := by decide +kernel
theorem dX0_makeGreatest_59 : decode M_X0_makeGreatest.2.1 59 = .ok (.iload 4, 2) := by decide +kernel
theorem dX0_makeGreatest_61 : decode M_X0_makeGreatest.2.1 61 = .ok (.ifCond .ge 5, 3) := by decide +kernel
theorem dX0_makeGreatest_64 : decode M_X0_makeGreatest.2.1 64 = .ok (.iconst 0, 1) := by decide +kernel
theorem dX0_makeGreatest_65 : decode M_X0_makeGreatest.2.1 65 = .ok (.ireturn, 1) := by decide +kernel
theorem dX0_makeGreatest_66 : decode M_X0_makeGreatest.2.1 66 = .ok (.aload_n 0, 1) := by decide +kernel
theorem dX0_makeGreatest_67 : decode M_X0_makeGreatest.2.1 67 = .ok (.iload 4, 2) := by decide +kernel
theorem dX0_makeGreatest_69 : decode M_X0_makeGreatest.2.1 69 = .ok (.iload_n 3, 1) := by decide +kernel
theorem dX0_makeGreatest_70 : decode M_X0_makeGreatest.2.1 70 = .ok (.invokevirtual 81, 3) := by decide +kernel
theorem dX0_makeGreatest_73 : decode M_X0_makeGreatest.2.1 73 = .ok (.iinc 2 1, 3) := by decide +kernel
theorem dX0_makeGreatest_76 : decode M_X0_makeGreatest.2.1 76 = .ok (.goto (-48), 3) := by decide +kernel
theorem dX0_makeGreatest_79 : decode M_X0_makeGreatest.2.1 79 = .ok (.iconst 1, 1) := by decide +kernel
theorem dX0_makeGreatest_80 : decode M_X0_makeGreatest.2.1 80 = .ok (.ireturn, 1) := by decide +kernel
theorem dX0_rowThatGives_0 : decode M_X0_rowThatGives.2.1 0 = .ok (.iconst 0, 1) := by decide +kernel
theorem dX0_rowThatGives_1 : decode M_X0_rowThatGives.2.1 1 = .ok (.istore_n 2, 1) := by decide +kernel
theorem dX0_rowThatGives_2 : decode M_X0_rowThatGives.2.1 2 = .ok (.iload_n 2, 1) := by decide +kernel
theorem dX0_rowThatGives_3 : decode M_X0_rowThatGives.2.1 3 = .ok (.aload_n 0, 1) := by decide +kernel
theorem dX0_rowThatGives_4 : decode M_X0_rowThatGives.2.1 4 = .ok (.getfield 25, 3) := by decide +kernel
theorem dX0_rowThatGives_7 : decode M_X0_rowThatGives.2.1 7 = .ok (.if_icmp .ge 21, 3) := by decide +kernel
theorem dX0_rowThatGives_10 : decode M_X0_rowThatGives.2.1 10 = .ok (.aload_n 0, 1) := by decide +kernel
theorem dX0_rowThatGives_11 : decode M_X0_rowThatGives.2.1 11 = .ok (.getfield 18, 3) := by decide +kernel
theorem dX0_rowThatGives_14 : decode M_X0_rowThatGives.2.1 14 = .ok (.iload_n 2, 1) := by decide +kernel
theorem dX0_rowThatGives_15 : decode M_X0_rowThatGives.2.1 15 = .ok (.iaload, 1) := by decide +kernel
theorem dX0_rowThatGives_16 : decode M_X0_rowThatGives.2.1 16 = .ok (.iload_n 1, 1) := by decide +kernel
theorem dX0_rowThatGives_17 : decode M_X0_rowThatGives.2.1 17 = .ok (.if_icmp .ne 5, 3) := by decide +kernel
theorem dX0_rowThatGives_20 : decode M_X0_rowThatGives.2.1 20 = .ok (.iload_n 2, 1) := by decide +kernel
theorem dX0_rowThatGives_21 : decode M_X0_rowThatGives.2.1 21 = .ok (.ireturn, 1) := by decide +kernel
theorem dX0_rowThatGives_22 : decode M_X0_rowThatGives.2.1 22 = .ok (.iinc 2 1, 3) := by decide +kernel
theorem dX0_rowThatGives_25 : decode M_X0_rowThatGives.2.1 25 = .ok (.goto (-23), 3) := by decide +kernel
theorem dX0_rowThatGives_28 : decode M_X0_rowThatGives.2.1 28 = .ok (.iconst (-1), 1) := by decide +kernel
theorem dX0_rowThatGives_29 : decode M_X0_rowThatGives.2.1 29 = .ok (.ireturn, 1) := by decide +kernel
theorem dX0_firstOfSign_0 : decode M_X0_firstOfSign.2.1 0 = .ok (.iload_n 1, 1) := by decide +kernel
theorem dX0_firstOfSign_1 : decode M_X0_firstOfSign.2.1 1 = .ok (.ifCond .lt 11, 3) := by decide +kernel
theorem dX0_firstOfSign_4 : decode M_X0_firstOfSign.2.1 4 = .ok (.iload_n 1, 1) := by decide +kernel
theorem dX0_firstOfSign_5 : decode M_X0_firstOfSign.2.1 5 = .ok (.aload_n 0, 1) := by decide +kernel
theorem dX0_firstOfSign_6 : decode M_X0_firstOfSign.2.1 6 = .ok (.getfield 25, 3) := by decide +kernel
theorem dX0_firstOfSign_9 : decode M_X0_firstOfSign.2.1 9 = .ok (.if_icmp .lt 5, 3) := by decide +kernel
theorem dX0_firstOfSign_12 : decode M_X0_firstOfSign.2.1 12 = .ok (.iconst (-1), 1) := by decide +kernel
theorem dX0_firstOfSign_13 : decode M_X0_firstOfSign.2.1 13 = .ok (.ireturn, 1) := by decide +kernel
theorem dX0_firstOfSign_14 : decode M_X0_firstOfSign.2.1 14 = .ok (.iconst 0, 1) := by decide +kernel
theorem dX0_firstOfSign_15 : decode M_X0_firstOfSign.2.1 15 = .ok (.istore 4, 2) := by decide +kernel
theorem dX0_firstOfSign_17 : decode M_X0_firstOfSign.2.1 17 = .ok (.iload 4, 2) := by decide +kernel
theorem dX0_firstOfSign_19 : decode M_X0_firstOfSign.2.1 19 = .ok (.aload_n 0, 1) := by decide +kernel
theorem dX0_firstOfSign_20 : decode M_X0_firstOfSign.2.1 20 = .ok (.getfield 29, 3) := by decide +kernel
theorem dX0_firstOfSign_23 : decode M_X0_firstOfSign.2.1 23 = .ok (.if_icmp .ge 35, 3) := by decide +kernel
theorem dX0_firstOfSign_26 : decode M_X0_firstOfSign.2.1 26 = .ok (.iload 4, 2) := by decide +kernel
theorem dX0_firstOfSign_28 : decode M_X0_firstOfSign.2.1 28 = .ok (.iload_n 2, 1) := by decide +kernel
theorem dX0_firstOfSign_29 : decode M_X0_firstOfSign.2.1 29 = .ok (.if_icmp .eq 23, 3) := by decide +kernel
theorem dX0_firstOfSign_32 : decode M_X0_firstOfSign.2.1 32 = .ok (.iload_n 3, 1) := by decide +kernel
theorem dX0_firstOfSign_33 : decode M_X0_firstOfSign.2.1 33 = .ok (.i2l, 1) := by decide +kernel
theorem dX0_firstOfSign_34 : decode M_X0_firstOfSign.2.1 34 = .ok (.aload_n 0, 1) := by decide +kernel
theorem dX0_firstOfSign_35 : decode M_X0_firstOfSign.2.1 35 = .ok (.getfield 15, 3) := by decide +kernel
theorem dX0_firstOfSign_38 : decode M_X0_firstOfSign.2.1 38 = .ok (.iload_n 1, 1) := by decide +kernel
theorem dX0_firstOfSign_39 : decode M_X0_firstOfSign.2.1 39 = .ok (.aaload, 1) := by decide +kernel
theorem dX0_firstOfSign_40 : decode M_X0_firstOfSign.2.1 40 = .ok (.iload 4, 2) := by decide +kernel
theorem dX0_firstOfSign_42 : decode M_X0_firstOfSign.2.1 42 = .ok (.laload, 1) := by decide +kernel
theorem dX0_firstOfSign_43 : decode M_X0_firstOfSign.2.1 43 = .ok (.lmul, 1) := by decide +kernel
theorem dX0_firstOfSign_44 : decode M_X0_firstOfSign.2.1 44 = .ok (.lconst 0, 1) := by decide +kernel
theorem dX0_firstOfSign_45 : decode M_X0_firstOfSign.2.1 45 = .ok (.lcmp, 1) := by decide +kernel
theorem dX0_firstOfSign_46 : decode M_X0_firstOfSign.2.1 46 = .ok (.ifCond .le 6, 3) := by decide +kernel
theorem dX0_firstOfSign_49 : decode M_X0_firstOfSign.2.1 49 = .ok (.iload 4, 2) := by decide +kernel
theorem dX0_firstOfSign_51 : decode M_X0_firstOfSign.2.1 51 = .ok (.ireturn, 1) := by decide +kernel
theorem dX0_firstOfSign_52 : decode M_X0_firstOfSign.2.1 52 = .ok (.iinc 4 1, 3) := by decide +kernel
theorem dX0_firstOfSign_55 : decode M_X0_firstOfSign.2.1 55 = .ok (.goto (-38), 3) := by decide +kernel
theorem dX0_firstOfSign_58 : decode M_X0_firstOfSign.2.1 58 = .ok (.iconst (-1), 1) := by decide +kernel
theorem dX0_firstOfSign_59 : decode M_X0_firstOfSign.2.1 59 = .ok (.ireturn, 1) := by decide +kernel
theorem dX0_leavingRow_0 : decode M_X0_leavingRow.2.1 0 = .ok (.iload_n 1, 1) := by decide +kernel
theorem dX0_leavingRow_1 : decode M_X0_leavingRow.2.1 1 = .ok (.ifCond .lt 11, 3) := by decide +kernel
theorem dX0_leavingRow_4 : decode M_X0_leavingRow.2.1 4 = .ok (.iload_n 1, 1) := by decide +kernel
theorem dX0_leavingRow_5 : decode M_X0_leavingRow.2.1 5 = .ok (.aload_n 0, 1) := by decide +kernel
theorem dX0_leavingRow_6 : decode M_X0_leavingRow.2.1 6 = .ok (.getfield 29, 3) := by decide +kernel
theorem dX0_leavingRow_9 : decode M_X0_leavingRow.2.1 9 = .ok (.if_icmp .lt 5, 3) := by decide +kernel
theorem dX0_leavingRow_12 : decode M_X0_leavingRow.2.1 12 = .ok (.iconst (-1), 1) := by decide +kernel
theorem dX0_leavingRow_13 : decode M_X0_leavingRow.2.1 13 = .ok (.ireturn, 1) := by decide +kernel
theorem dX0_leavingRow_14 : decode M_X0_leavingRow.2.1 14 = .ok (.iconst (-1), 1) := by decide +kernel
theorem dX0_leavingRow_15 : decode M_X0_leavingRow.2.1 15 = .ok (.istore_n 2, 1) := by decide +kernel
theorem dX0_leavingRow_16 : decode M_X0_leavingRow.2.1 16 = .ok (.iconst 0, 1) := by decide +kernel
theorem dX0_leavingRow_17 : decode M_X0_leavingRow.2.1 17 = .ok (.istore_n 3, 1) := by decide +kernel
theorem dX0_leavingRow_18 : decode M_X0_leavingRow.2.1 18 = .ok (.iload_n 3, 1) := by decide +kernel
theorem dX0_leavingRow_19 : decode M_X0_leavingRow.2.1 19 = .ok (.aload_n 0, 1) := by decide +kernel
theorem dX0_leavingRow_20 : decode M_X0_leavingRow.2.1 20 = .ok (.getfield 25, 3) := by decide +kernel
theorem dX0_leavingRow_23 : decode M_X0_leavingRow.2.1 23 = .ok (.if_icmp .ge 38, 3) := by decide +kernel
theorem dX0_leavingRow_26 : decode M_X0_leavingRow.2.1 26 = .ok (.aload_n 0, 1) := by decide +kernel
theorem dX0_leavingRow_27 : decode M_X0_leavingRow.2.1 27 = .ok (.getfield 15, 3) := by decide +kernel
theorem dX0_leavingRow_30 : decode M_X0_leavingRow.2.1 30 = .ok (.iload_n 3, 1) := by decide +kernel
theorem dX0_leavingRow_31 : decode M_X0_leavingRow.2.1 31 = .ok (.aaload, 1) := by decide +kernel
theorem dX0_leavingRow_32 : decode M_X0_leavingRow.2.1 32 = .ok (.iload_n 1, 1) := by decide +kernel
theorem dX0_leavingRow_33 : decode M_X0_leavingRow.2.1 33 = .ok (.laload, 1) := by decide +kernel
theorem dX0_leavingRow_34 : decode M_X0_leavingRow.2.1 34 = .ok (.lconst 0, 1) := by decide +kernel
theorem dX0_leavingRow_35 : decode M_X0_leavingRow.2.1 35 = .ok (.lcmp, 1) := by decide +kernel
theorem dX0_leavingRow_36 : decode M_X0_leavingRow.2.1 36 = .ok (.ifCond .le 19, 3) := by decide +kernel
theorem dX0_leavingRow_39 : decode M_X0_leavingRow.2.1 39 = .ok (.iload_n 2, 1) := by decide +kernel
theorem dX0_leavingRow_40 : decode M_X0_leavingRow.2.1 40 = .ok (.ifCond .lt 13, 3) := by decide +kernel
theorem dX0_leavingRow_43 : decode M_X0_leavingRow.2.1 43 = .ok (.aload_n 0, 1) := by decide +kernel
theorem dX0_leavingRow_44 : decode M_X0_leavingRow.2.1 44 = .ok (.iload_n 3, 1) := by decide +kernel
theorem dX0_leavingRow_45 : decode M_X0_leavingRow.2.1 45 = .ok (.iload_n 2, 1) := by decide +kernel
theorem dX0_leavingRow_46 : decode M_X0_leavingRow.2.1 46 = .ok (.iload_n 1, 1) := by decide +kernel
theorem dX0_leavingRow_47 : decode M_X0_leavingRow.2.1 47 = .ok (.invokevirtual 99, 3) := by decide +kernel
theorem dX0_leavingRow_50 : decode M_X0_leavingRow.2.1 50 = .ok (.ifCond .eq 5, 3) := by decide +kernel
theorem dX0_leavingRow_53 : decode M_X0_leavingRow.2.1 53 = .ok (.iload_n 3, 1) := by decide +kernel
theorem dX0_leavingRow_54 : decode M_X0_leavingRow.2.1 54 = .ok (.istore_n 2, 1) := by decide +kernel
theorem dX0_leavingRow_55 : decode M_X0_leavingRow.2.1 55 = .ok (.iinc 3 1, 3) := by decide +kernel
theorem dX0_leavingRow_58 : decode M_X0_leavingRow.2.1 58 = .ok (.goto (-40), 3) := by decide +kernel
theorem dX0_leavingRow_61 : decode M_X0_leavingRow.2.1 61 = .ok (.iload_n 2, 1) := by decide +kernel
theorem dX0_leavingRow_62 : decode M_X0_leavingRow.2.1 62 = .ok (.ireturn, 1) := by decide +kernel
theorem dX0_leavesAhead_0 : decode M_X0_leavesAhead.2.1 0 = .ok (.aload_n 0, 1) := by decide +kernel
theorem dX0_leavesAhead_1 : decode M_X0_leavesAhead.2.1 1 = .ok (.getfield 15, 3) := by decide +kernel
theorem dX0_leavesAhead_4 : decode M_X0_leavesAhead.2.1 4 = .ok (.iload_n 1, 1) := by decide +kernel
theorem dX0_leavesAhead_5 : decode M_X0_leavesAhead.2.1 5 = .ok (.aaload, 1) := by decide +kernel
theorem dX0_leavesAhead_6 : decode M_X0_leavesAhead.2.1 6 = .ok (.bipush 13, 2) := by decide +kernel
theorem dX0_leavesAhead_8 : decode M_X0_leavesAhead.2.1 8 = .ok (.laload, 1) := by decide +kernel
theorem dX0_leavesAhead_9 : decode M_X0_leavesAhead.2.1 9 = .ok (.aload_n 0, 1) := by decide +kernel
theorem dX0_leavesAhead_10 : decode M_X0_leavesAhead.2.1 10 = .ok (.getfield 15, 3) := by decide +kernel
theorem dX0_leavesAhead_13 : decode M_X0_leavesAhead.2.1 13 = .ok (.iload_n 2, 1) := by decide +kernel
theorem dX0_leavesAhead_14 : decode M_X0_leavesAhead.2.1 14 = .ok (.aaload, 1) := by decide +kernel
theorem dX0_leavesAhead_15 : decode M_X0_leavesAhead.2.1 15 = .ok (.iload_n 3, 1) := by decide +kernel
theorem dX0_leavesAhead_16 : decode M_X0_leavesAhead.2.1 16 = .ok (.laload, 1) := by decide +kernel
theorem dX0_leavesAhead_17 : decode M_X0_leavesAhead.2.1 17 = .ok (.lmul, 1) := by decide +kernel
theorem dX0_leavesAhead_18 : decode M_X0_leavesAhead.2.1 18 = .ok (.lstore 4, 2) := by decide +kernel
theorem dX0_leavesAhead_20 : decode M_X0_leavesAhead.2.1 20 = .ok (.aload_n 0, 1) := by decide +kernel
theorem dX0_leavesAhead_21 : decode M_X0_leavesAhead.2.1 21 = .ok (.getfield 15, 3) := by decide +kernel
theorem dX0_leavesAhead_24 : decode M_X0_leavesAhead.2.1 24 = .ok (.iload_n 2, 1) := by decide +kernel
theorem dX0_leavesAhead_25 : decode M_X0_leavesAhead.2.1 25 = .ok (.aaload, 1) := by decide +kernel
theorem dX0_leavesAhead_26 : decode M_X0_leavesAhead.2.1 26 = .ok (.bipush 13, 2) := by decide +kernel
theorem dX0_leavesAhead_28 : decode M_X0_leavesAhead.2.1 28 = .ok (.laload, 1) := by decide +kernel
theorem dX0_leavesAhead_29 : decode M_X0_leavesAhead.2.1 29 = .ok (.aload_n 0, 1) := by decide +kernel
theorem dX0_leavesAhead_30 : decode M_X0_leavesAhead.2.1 30 = .ok (.getfield 15, 3) := by decide +kernel
theorem dX0_leavesAhead_33 : decode M_X0_leavesAhead.2.1 33 = .ok (.iload_n 1, 1) := by decide +kernel
theorem dX0_leavesAhead_34 : decode M_X0_leavesAhead.2.1 34 = .ok (.aaload, 1) := by decide +kernel
theorem dX0_leavesAhead_35 : decode M_X0_leavesAhead.2.1 35 = .ok (.iload_n 3, 1) := by decide +kernel
theorem dX0_leavesAhead_36 : decode M_X0_leavesAhead.2.1 36 = .ok (.laload, 1) := by decide +kernel
theorem dX0_leavesAhead_37 : decode M_X0_leavesAhead.2.1 37 = .ok (.lmul, 1) := by decide +kernel
theorem dX0_leavesAhead_38 : decode M_X0_leavesAhead.2.1 38 = .ok (.lstore 6, 2) := by decide +kernel
theorem dX0_leavesAhead_40 : decode M_X0_leavesAhead.2.1 40 = .ok (.lload 4, 2) := by decide +kernel
theorem dX0_leavesAhead_42 : decode M_X0_leavesAhead.2.1 42 = .ok (.lload 6, 2) := by decide +kernel
theorem dX0_leavesAhead_44 : decode M_X0_leavesAhead.2.1 44 = .ok (.lcmp, 1) := by decide +kernel
theorem dX0_leavesAhead_45 : decode M_X0_leavesAhead.2.1 45 = .ok (.ifCond .lt 26, 3) := by decide +kernel
theorem dX0_leavesAhead_48 : decode M_X0_leavesAhead.2.1 48 = .ok (.lload 4, 2) := by decide +kernel
theorem dX0_leavesAhead_50 : decode M_X0_leavesAhead.2.1 50 = .ok (.lload 6, 2) := by decide +kernel
theorem dX0_leavesAhead_52 : decode M_X0_leavesAhead.2.1 52 = .ok (.lcmp, 1) := by decide +kernel
theorem dX0_leavesAhead_53 : decode M_X0_leavesAhead.2.1 53 = .ok (.ifCond .ne 22, 3) := by decide +kernel
theorem dX0_leavesAhead_56 : decode M_X0_leavesAhead.2.1 56 = .ok (.aload_n 0, 1) := by decide +kernel
theorem dX0_leavesAhead_57 : decode M_X0_leavesAhead.2.1 57 = .ok (.getfield 18, 3) := by decide +kernel
theorem dX0_leavesAhead_60 : decode M_X0_leavesAhead.2.1 60 = .ok (.iload_n 1, 1) := by decide +kernel
theorem dX0_leavesAhead_61 : decode M_X0_leavesAhead.2.1 61 = .ok (.iaload, 1) := by decide +kernel
theorem dX0_leavesAhead_62 : decode M_X0_leavesAhead.2.1 62 = .ok (.aload_n 0, 1) := by decide +kernel
theorem dX0_leavesAhead_63 : decode M_X0_leavesAhead.2.1 63 = .ok (.getfield 18, 3) := by decide +kernel
theorem dX0_leavesAhead_66 : decode M_X0_leavesAhead.2.1 66 = .ok (.iload_n 2, 1) := by decide +kernel
theorem dX0_leavesAhead_67 : decode M_X0_leavesAhead.2.1 67 = .ok (.iaload, 1) := by decide +kernel
theorem dX0_leavesAhead_68 : decode M_X0_leavesAhead.2.1 68 = .ok (.if_icmp .ge 7, 3) := by decide +kernel
theorem dX0_leavesAhead_71 : decode M_X0_leavesAhead.2.1 71 = .ok (.iconst 1, 1) := by decide +kernel
theorem dX0_leavesAhead_72 : decode M_X0_leavesAhead.2.1 72 = .ok (.goto 4, 3) := by decide +kernel
theorem dX0_leavesAhead_75 : decode M_X0_leavesAhead.2.1 75 = .ok (.iconst 0, 1) := by decide +kernel
theorem dX0_leavesAhead_76 : decode M_X0_leavesAhead.2.1 76 = .ok (.ireturn, 1) := by decide +kernel
theorem dX0_pivot_0 : decode M_X0_pivot.2.1 0 = .ok (.aload_n 0, 1) := by decide +kernel
theorem dX0_pivot_1 : decode M_X0_pivot.2.1 1 = .ok (.getfield 15, 3) := by decide +kernel
theorem dX0_pivot_4 : decode M_X0_pivot.2.1 4 = .ok (.iload_n 1, 1) := by decide +kernel
theorem dX0_pivot_5 : decode M_X0_pivot.2.1 5 = .ok (.aaload, 1) := by decide +kernel
theorem dX0_pivot_6 : decode M_X0_pivot.2.1 6 = .ok (.iload_n 2, 1) := by decide +kernel
theorem dX0_pivot_7 : decode M_X0_pivot.2.1 7 = .ok (.laload, 1) := by decide +kernel
theorem dX0_pivot_8 : decode M_X0_pivot.2.1 8 = .ok (.lconst 0, 1) := by decide +kernel
theorem dX0_pivot_9 : decode M_X0_pivot.2.1 9 = .ok (.lcmp, 1) := by decide +kernel
theorem dX0_pivot_10 : decode M_X0_pivot.2.1 10 = .ok (.ifCond .ge 8, 3) := by decide +kernel
theorem dX0_pivot_13 : decode M_X0_pivot.2.1 13 = .ok (.aload_n 0, 1) := by decide +kernel
theorem dX0_pivot_14 : decode M_X0_pivot.2.1 14 = .ok (.iload_n 1, 1) := by decide +kernel
theorem dX0_pivot_15 : decode M_X0_pivot.2.1 15 = .ok (.invokevirtual 102, 3) := by decide +kernel
theorem dX0_pivot_18 : decode M_X0_pivot.2.1 18 = .ok (.aload_n 0, 1) := by decide +kernel
theorem dX0_pivot_19 : decode M_X0_pivot.2.1 19 = .ok (.getfield 15, 3) := by decide +kernel
theorem dX0_pivot_22 : decode M_X0_pivot.2.1 22 = .ok (.iload_n 1, 1) := by decide +kernel
theorem dX0_pivot_23 : decode M_X0_pivot.2.1 23 = .ok (.aaload, 1) := by decide +kernel
theorem dX0_pivot_24 : decode M_X0_pivot.2.1 24 = .ok (.iload_n 2, 1) := by decide +kernel
theorem dX0_pivot_25 : decode M_X0_pivot.2.1 25 = .ok (.laload, 1) := by decide +kernel
theorem dX0_pivot_26 : decode M_X0_pivot.2.1 26 = .ok (.lstore_n 3, 1) := by decide +kernel
theorem dX0_pivot_27 : decode M_X0_pivot.2.1 27 = .ok (.lload_n 3, 1) := by decide +kernel
theorem dX0_pivot_28 : decode M_X0_pivot.2.1 28 = .ok (.lconst 0, 1) := by decide +kernel
theorem dX0_pivot_29 : decode M_X0_pivot.2.1 29 = .ok (.lcmp, 1) := by decide +kernel
theorem dX0_pivot_30 : decode M_X0_pivot.2.1 30 = .ok (.ifCond .eq 12, 3) := by decide +kernel
theorem dX0_pivot_33 : decode M_X0_pivot.2.1 33 = .ok (.aload_n 0, 1) := by decide +kernel
theorem dX0_pivot_34 : decode M_X0_pivot.2.1 34 = .ok (.getfield 32, 3) := by decide +kernel
theorem dX0_pivot_37 : decode M_X0_pivot.2.1 37 = .ok (.lconst 0, 1) := by decide +kernel
theorem dX0_pivot_38 : decode M_X0_pivot.2.1 38 = .ok (.lcmp, 1) := by decide +kernel
theorem dX0_pivot_39 : decode M_X0_pivot.2.1 39 = .ok (.ifCond .ne 4, 3) := by decide +kernel
theorem dX0_pivot_42 : decode M_X0_pivot.2.1 42 = .ok (.return_, 1) := by decide +kernel
theorem dX0_pivot_43 : decode M_X0_pivot.2.1 43 = .ok (.iconst 0, 1) := by decide +kernel
theorem dX0_pivot_44 : decode M_X0_pivot.2.1 44 = .ok (.istore 5, 2) := by decide +kernel
theorem dX0_pivot_46 : decode M_X0_pivot.2.1 46 = .ok (.iload 5, 2) := by decide +kernel
theorem dX0_pivot_48 : decode M_X0_pivot.2.1 48 = .ok (.aload_n 0, 1) := by decide +kernel
theorem dX0_pivot_49 : decode M_X0_pivot.2.1 49 = .ok (.getfield 25, 3) := by decide +kernel
theorem dX0_pivot_52 : decode M_X0_pivot.2.1 52 = .ok (.if_icmp .ge 23, 3) := by decide +kernel
theorem dX0_pivot_55 : decode M_X0_pivot.2.1 55 = .ok (.iload 5, 2) := by decide +kernel
theorem dX0_pivot_57 : decode M_X0_pivot.2.1 57 = .ok (.iload_n 1, 1) := by decide +kernel
theorem dX0_pivot_58 : decode M_X0_pivot.2.1 58 = .ok (.if_icmp .eq 11, 3) := by decide +kernel
theorem dX0_pivot_61 : decode M_X0_pivot.2.1 61 = .ok (.aload_n 0, 1) := by decide +kernel
theorem dX0_pivot_62 : decode M_X0_pivot.2.1 62 = .ok (.iload 5, 2) := by decide +kernel
theorem dX0_pivot_64 : decode M_X0_pivot.2.1 64 = .ok (.iload_n 1, 1) := by decide +kernel
theorem dX0_pivot_65 : decode M_X0_pivot.2.1 65 = .ok (.iload_n 2, 1) := by decide +kernel
theorem dX0_pivot_66 : decode M_X0_pivot.2.1 66 = .ok (.invokevirtual 106, 3) := by decide +kernel
theorem dX0_pivot_69 : decode M_X0_pivot.2.1 69 = .ok (.iinc 5 1, 3) := by decide +kernel
theorem dX0_pivot_72 : decode M_X0_pivot.2.1 72 = .ok (.goto (-26), 3) := by decide +kernel
theorem dX0_pivot_75 : decode M_X0_pivot.2.1 75 = .ok (.aload_n 0, 1) := by decide +kernel
theorem dX0_pivot_76 : decode M_X0_pivot.2.1 76 = .ok (.lload_n 3, 1) := by decide +kernel
theorem dX0_pivot_77 : decode M_X0_pivot.2.1 77 = .ok (.putfield 32, 3) := by decide +kernel
theorem dX0_pivot_80 : decode M_X0_pivot.2.1 80 = .ok (.aload_n 0, 1) := by decide +kernel
theorem dX0_pivot_81 : decode M_X0_pivot.2.1 81 = .ok (.getfield 18, 3) := by decide +kernel
theorem dX0_pivot_84 : decode M_X0_pivot.2.1 84 = .ok (.iload_n 1, 1) := by decide +kernel
theorem dX0_pivot_85 : decode M_X0_pivot.2.1 85 = .ok (.iload_n 2, 1) := by decide +kernel
theorem dX0_pivot_86 : decode M_X0_pivot.2.1 86 = .ok (.iastore, 1) := by decide +kernel
theorem dX0_pivot_87 : decode M_X0_pivot.2.1 87 = .ok (.return_, 1) := by decide +kernel
theorem dX0_turnSigns_0 : decode M_X0_turnSigns.2.1 0 = .ok (.iconst 0, 1) := by decide +kernel
theorem dX0_turnSigns_1 : decode M_X0_turnSigns.2.1 1 = .ok (.istore_n 2, 1) := by decide +kernel
theorem dX0_turnSigns_2 : decode M_X0_turnSigns.2.1 2 = .ok (.iload_n 2, 1) := by decide +kernel
theorem dX0_turnSigns_3 : decode M_X0_turnSigns.2.1 3 = .ok (.aload_n 0, 1) := by decide +kernel
theorem dX0_turnSigns_4 : decode M_X0_turnSigns.2.1 4 = .ok (.getfield 29, 3) := by decide +kernel
theorem dX0_turnSigns_7 : decode M_X0_turnSigns.2.1 7 = .ok (.if_icmp .ge 26, 3) := by decide +kernel
theorem dX0_turnSigns_10 : decode M_X0_turnSigns.2.1 10 = .ok (.aload_n 0, 1) := by decide +kernel
theorem dX0_turnSigns_11 : decode M_X0_turnSigns.2.1 11 = .ok (.getfield 15, 3) := by decide +kernel
theorem dX0_turnSigns_14 : decode M_X0_turnSigns.2.1 14 = .ok (.iload_n 1, 1) := by decide +kernel
theorem dX0_turnSigns_15 : decode M_X0_turnSigns.2.1 15 = .ok (.aaload, 1) := by decide +kernel
theorem dX0_turnSigns_16 : decode M_X0_turnSigns.2.1 16 = .ok (.iload_n 2, 1) := by decide +kernel
theorem dX0_turnSigns_17 : decode M_X0_turnSigns.2.1 17 = .ok (.aload_n 0, 1) := by decide +kernel
theorem dX0_turnSigns_18 : decode M_X0_turnSigns.2.1 18 = .ok (.getfield 15, 3) := by decide +kernel
theorem dX0_turnSigns_21 : decode M_X0_turnSigns.2.1 21 = .ok (.iload_n 1, 1) := by decide +kernel
theorem dX0_turnSigns_22 : decode M_X0_turnSigns.2.1 22 = .ok (.aaload, 1) := by decide +kernel
theorem dX0_turnSigns_23 : decode M_X0_turnSigns.2.1 23 = .ok (.iload_n 2, 1) := by decide +kernel
theorem dX0_turnSigns_24 : decode M_X0_turnSigns.2.1 24 = .ok (.laload, 1) := by decide +kernel
theorem dX0_turnSigns_25 : decode M_X0_turnSigns.2.1 25 = .ok (.lneg, 1) := by decide +kernel
theorem dX0_turnSigns_26 : decode M_X0_turnSigns.2.1 26 = .ok (.lastore, 1) := by decide +kernel
theorem dX0_turnSigns_27 : decode M_X0_turnSigns.2.1 27 = .ok (.iinc 2 1, 3) := by decide +kernel
theorem dX0_turnSigns_30 : decode M_X0_turnSigns.2.1 30 = .ok (.goto (-28), 3) := by decide +kernel
theorem dX0_turnSigns_33 : decode M_X0_turnSigns.2.1 33 = .ok (.aload_n 0, 1) := by decide +kernel
theorem dX0_turnSigns_34 : decode M_X0_turnSigns.2.1 34 = .ok (.getfield 15, 3) := by decide +kernel
theorem dX0_turnSigns_37 : decode M_X0_turnSigns.2.1 37 = .ok (.iload_n 1, 1) := by decide +kernel
theorem dX0_turnSigns_38 : decode M_X0_turnSigns.2.1 38 = .ok (.aaload, 1) := by decide +kernel
theorem dX0_turnSigns_39 : decode M_X0_turnSigns.2.1 39 = .ok (.bipush 13, 2) := by decide +kernel
theorem dX0_turnSigns_41 : decode M_X0_turnSigns.2.1 41 = .ok (.aload_n 0, 1) := by decide +kernel
theorem dX0_turnSigns_42 : decode M_X0_turnSigns.2.1 42 = .ok (.getfield 15, 3) := by decide +kernel
theorem dX0_turnSigns_45 : decode M_X0_turnSigns.2.1 45 = .ok (.iload_n 1, 1) := by decide +kernel
theorem dX0_turnSigns_46 : decode M_X0_turnSigns.2.1 46 = .ok (.aaload, 1) := by decide +kernel
theorem dX0_turnSigns_47 : decode M_X0_turnSigns.2.1 47 = .ok (.bipush 13, 2) := by decide +kernel
theorem dX0_turnSigns_49 : decode M_X0_turnSigns.2.1 49 = .ok (.laload, 1) := by decide +kernel
theorem dX0_turnSigns_50 : decode M_X0_turnSigns.2.1 50 = .ok (.lneg, 1) := by decide +kernel
theorem dX0_turnSigns_51 : decode M_X0_turnSigns.2.1 51 = .ok (.lastore, 1) := by decide +kernel
theorem dX0_turnSigns_52 : decode M_X0_turnSigns.2.1 52 = .ok (.return_, 1) := by decide +kernel
theorem dX0_clearBy_0 : decode M_X0_clearBy.2.1 0 = .ok (.aload_n 0, 1) := by decide +kernel
theorem dX0_clearBy_1 : decode M_X0_clearBy.2.1 1 = .ok (.getfield 15, 3) := by decide +kernel
theorem dX0_clearBy_4 : decode M_X0_clearBy.2.1 4 = .ok (.iload_n 2, 1) := by decide +kernel
theorem dX0_clearBy_5 : decode M_X0_clearBy.2.1 5 = .ok (.aaload, 1) := by decide +kernel
theorem dX0_clearBy_6 : decode M_X0_clearBy.2.1 6 = .ok (.iload_n 3, 1) := by decide +kernel
theorem dX0_clearBy_7 : decode M_X0_clearBy.2.1 7 = .ok (.laload, 1) := by decide +kernel
theorem dX0_clearBy_8 : decode M_X0_clearBy.2.1 8 = .ok (.lstore 4, 2) := by decide +kernel
theorem dX0_clearBy_10 : decode M_X0_clearBy.2.1 10 = .ok (.aload_n 0, 1) := by decide +kernel
theorem dX0_clearBy_11 : decode M_X0_clearBy.2.1 11 = .ok (.getfield 15, 3) := by decide +kernel
theorem dX0_clearBy_14 : decode M_X0_clearBy.2.1 14 = .ok (.iload_n 1, 1) := by decide +kernel
theorem dX0_clearBy_15 : decode M_X0_clearBy.2.1 15 = .ok (.aaload, 1) := by decide +kernel
theorem dX0_clearBy_16 : decode M_X0_clearBy.2.1 16 = .ok (.iload_n 3, 1) := by decide +kernel
theorem dX0_clearBy_17 : decode M_X0_clearBy.2.1 17 = .ok (.laload, 1) := by decide +kernel
theorem dX0_clearBy_18 : decode M_X0_clearBy.2.1 18 = .ok (.lstore 6, 2) := by decide +kernel
theorem dX0_clearBy_20 : decode M_X0_clearBy.2.1 20 = .ok (.iconst 0, 1) := by decide +kernel
theorem dX0_clearBy_21 : decode M_X0_clearBy.2.1 21 = .ok (.istore 8, 2) := by decide +kernel
theorem dX0_clearBy_23 : decode M_X0_clearBy.2.1 23 = .ok (.iload 8, 2) := by decide +kernel
theorem dX0_clearBy_25 : decode M_X0_clearBy.2.1 25 = .ok (.aload_n 0, 1) := by decide +kernel
theorem dX0_clearBy_26 : decode M_X0_clearBy.2.1 26 = .ok (.getfield 29, 3) := by decide +kernel
theorem dX0_clearBy_29 : decode M_X0_clearBy.2.1 29 = .ok (.if_icmp .ge 48, 3) := by decide +kernel
theorem dX0_clearBy_32 : decode M_X0_clearBy.2.1 32 = .ok (.aload_n 0, 1) := by decide +kernel
theorem dX0_clearBy_33 : decode M_X0_clearBy.2.1 33 = .ok (.getfield 15, 3) := by decide +kernel
theorem dX0_clearBy_36 : decode M_X0_clearBy.2.1 36 = .ok (.iload_n 1, 1) := by decide +kernel
theorem dX0_clearBy_37 : decode M_X0_clearBy.2.1 37 = .ok (.aaload, 1) := by decide +kernel
theorem dX0_clearBy_38 : decode M_X0_clearBy.2.1 38 = .ok (.iload 8, 2) := by decide +kernel
theorem dX0_clearBy_40 : decode M_X0_clearBy.2.1 40 = .ok (.aload_n 0, 1) := by decide +kernel
theorem dX0_clearBy_41 : decode M_X0_clearBy.2.1 41 = .ok (.getfield 15, 3) := by decide +kernel
theorem dX0_clearBy_44 : decode M_X0_clearBy.2.1 44 = .ok (.iload_n 1, 1) := by decide +kernel
theorem dX0_clearBy_45 : decode M_X0_clearBy.2.1 45 = .ok (.aaload, 1) := by decide +kernel
theorem dX0_clearBy_46 : decode M_X0_clearBy.2.1 46 = .ok (.iload 8, 2) := by decide +kernel
theorem dX0_clearBy_48 : decode M_X0_clearBy.2.1 48 = .ok (.laload, 1) := by decide +kernel
theorem dX0_clearBy_49 : decode M_X0_clearBy.2.1 49 = .ok (.lload 4, 2) := by decide +kernel
theorem dX0_clearBy_51 : decode M_X0_clearBy.2.1 51 = .ok (.lmul, 1) := by decide +kernel
theorem dX0_clearBy_52 : decode M_X0_clearBy.2.1 52 = .ok (.lload 6, 2) := by decide +kernel
theorem dX0_clearBy_54 : decode M_X0_clearBy.2.1 54 = .ok (.aload_n 0, 1) := by decide +kernel
theorem dX0_clearBy_55 : decode M_X0_clearBy.2.1 55 = .ok (.getfield 15, 3) := by decide +kernel
theorem dX0_clearBy_58 : decode M_X0_clearBy.2.1 58 = .ok (.iload_n 2, 1) := by decide +kernel
theorem dX0_clearBy_59 : decode M_X0_clearBy.2.1 59 = .ok (.aaload, 1) := by decide +kernel
theorem dX0_clearBy_60 : decode M_X0_clearBy.2.1 60 = .ok (.iload 8, 2) := by decide +kernel
theorem dX0_clearBy_62 : decode M_X0_clearBy.2.1 62 = .ok (.laload, 1) := by decide +kernel
theorem dX0_clearBy_63 : decode M_X0_clearBy.2.1 63 = .ok (.lmul, 1) := by decide +kernel
theorem dX0_clearBy_64 : decode M_X0_clearBy.2.1 64 = .ok (.lsub, 1) := by decide +kernel
theorem dX0_clearBy_65 : decode M_X0_clearBy.2.1 65 = .ok (.aload_n 0, 1) := by decide +kernel
theorem dX0_clearBy_66 : decode M_X0_clearBy.2.1 66 = .ok (.getfield 32, 3) := by decide +kernel
theorem dX0_clearBy_69 : decode M_X0_clearBy.2.1 69 = .ok (.ldiv, 1) := by decide +kernel
theorem dX0_clearBy_70 : decode M_X0_clearBy.2.1 70 = .ok (.lastore, 1) := by decide +kernel
theorem dX0_clearBy_71 : decode M_X0_clearBy.2.1 71 = .ok (.iinc 8 1, 3) := by decide +kernel
theorem dX0_clearBy_74 : decode M_X0_clearBy.2.1 74 = .ok (.goto (-51), 3) := by decide +kernel
theorem dX0_clearBy_77 : decode M_X0_clearBy.2.1 77 = .ok (.aload_n 0, 1) := by decide +kernel
theorem dX0_clearBy_78 : decode M_X0_clearBy.2.1 78 = .ok (.getfield 15, 3) := by decide +kernel
theorem dX0_clearBy_81 : decode M_X0_clearBy.2.1 81 = .ok (.iload_n 1, 1) := by decide +kernel
theorem dX0_clearBy_82 : decode M_X0_clearBy.2.1 82 = .ok (.aaload, 1) := by decide +kernel
theorem dX0_clearBy_83 : decode M_X0_clearBy.2.1 83 = .ok (.bipush 13, 2) := by decide +kernel
theorem dX0_clearBy_85 : decode M_X0_clearBy.2.1 85 = .ok (.aload_n 0, 1) := by decide +kernel
theorem dX0_clearBy_86 : decode M_X0_clearBy.2.1 86 = .ok (.getfield 15, 3) := by decide +kernel
theorem dX0_clearBy_89 : decode M_X0_clearBy.2.1 89 = .ok (.iload_n 1, 1) := by decide +kernel
theorem dX0_clearBy_90 : decode M_X0_clearBy.2.1 90 = .ok (.aaload, 1) := by decide +kernel
theorem dX0_clearBy_91 : decode M_X0_clearBy.2.1 91 = .ok (.bipush 13, 2) := by decide +kernel
theorem dX0_clearBy_93 : decode M_X0_clearBy.2.1 93 = .ok (.laload, 1) := by decide +kernel
theorem dX0_clearBy_94 : decode M_X0_clearBy.2.1 94 = .ok (.lload 4, 2) := by decide +kernel
theorem dX0_clearBy_96 : decode M_X0_clearBy.2.1 96 = .ok (.lmul, 1) := by decide +kernel
theorem dX0_clearBy_97 : decode M_X0_clearBy.2.1 97 = .ok (.lload 6, 2) := by decide +kernel
theorem dX0_clearBy_99 : decode M_X0_clearBy.2.1 99 = .ok (.aload_n 0, 1) := by decide +kernel
theorem dX0_clearBy_100 : decode M_X0_clearBy.2.1 100 = .ok (.getfield 15, 3) := by decide +kernel
theorem dX0_clearBy_103 : decode M_X0_clearBy.2.1 103 = .ok (.iload_n 2, 1) := by decide +kernel
theorem dX0_clearBy_104 : decode M_X0_clearBy.2.1 104 = .ok (.aaload, 1) := by decide +kernel
theorem dX0_clearBy_105 : decode M_X0_clearBy.2.1 105 = .ok (.bipush 13, 2) := by decide +kernel
theorem dX0_clearBy_107 : decode M_X0_clearBy.2.1 107 = .ok (.laload, 1) := by decide +kernel
theorem dX0_clearBy_108 : decode M_X0_clearBy.2.1 108 = .ok (.lmul, 1) := by decide +kernel
theorem dX0_clearBy_109 : decode M_X0_clearBy.2.1 109 = .ok (.lsub, 1) := by decide +kernel
theorem dX0_clearBy_110 : decode M_X0_clearBy.2.1 110 = .ok (.aload_n 0, 1) := by decide +kernel
theorem dX0_clearBy_111 : decode M_X0_clearBy.2.1 111 = .ok (.getfield 32, 3) := by decide +kernel
theorem dX0_clearBy_114 : decode M_X0_clearBy.2.1 114 = .ok (.ldiv, 1) := by decide +kernel
theorem dX0_clearBy_115 : decode M_X0_clearBy.2.1 115 = .ok (.lastore, 1) := by decide +kernel
theorem dX0_clearBy_116 : decode M_X0_clearBy.2.1 116 = .ok (.return_, 1) := by decide +kernel
theorem dX0_numerator_0 : decode M_X0_numerator.2.1 0 = .ok (.aload_n 0, 1) := by decide +kernel
theorem dX0_numerator_1 : decode M_X0_numerator.2.1 1 = .ok (.iload_n 1, 1) := by decide +kernel
theorem dX0_numerator_2 : decode M_X0_numerator.2.1 2 = .ok (.invokevirtual 92, 3) := by decide +kernel
theorem dX0_numerator_5 : decode M_X0_numerator.2.1 5 = .ok (.istore_n 2, 1) := by decide +kernel
theorem dX0_numerator_6 : decode M_X0_numerator.2.1 6 = .ok (.iload_n 2, 1) := by decide +kernel
theorem dX0_numerator_7 : decode M_X0_numerator.2.1 7 = .ok (.ifCond .ge 5, 3) := by decide +kernel
theorem dX0_numerator_10 : decode M_X0_numerator.2.1 10 = .ok (.lconst 0, 1) := by decide +kernel
theorem dX0_numerator_11 : decode M_X0_numerator.2.1 11 = .ok (.lreturn, 1) := by decide +kernel
theorem dX0_numerator_12 : decode M_X0_numerator.2.1 12 = .ok (.aload_n 0, 1) := by decide +kernel
theorem dX0_numerator_13 : decode M_X0_numerator.2.1 13 = .ok (.getfield 15, 3) := by decide +kernel
theorem dX0_numerator_16 : decode M_X0_numerator.2.1 16 = .ok (.iload_n 2, 1) := by decide +kernel
theorem dX0_numerator_17 : decode M_X0_numerator.2.1 17 = .ok (.aaload, 1) := by decide +kernel
theorem dX0_numerator_18 : decode M_X0_numerator.2.1 18 = .ok (.bipush 13, 2) := by decide +kernel
theorem dX0_numerator_20 : decode M_X0_numerator.2.1 20 = .ok (.laload, 1) := by decide +kernel
theorem dX0_numerator_21 : decode M_X0_numerator.2.1 21 = .ok (.aload_n 0, 1) := by decide +kernel
theorem dX0_numerator_22 : decode M_X0_numerator.2.1 22 = .ok (.getfield 15, 3) := by decide +kernel
theorem dX0_numerator_25 : decode M_X0_numerator.2.1 25 = .ok (.iload_n 2, 1) := by decide +kernel
theorem dX0_numerator_26 : decode M_X0_numerator.2.1 26 = .ok (.aaload, 1) := by decide +kernel
theorem dX0_numerator_27 : decode M_X0_numerator.2.1 27 = .ok (.bipush 13, 2) := by decide +kernel
theorem dX0_numerator_29 : decode M_X0_numerator.2.1 29 = .ok (.laload, 1) := by decide +kernel
theorem dX0_numerator_30 : decode M_X0_numerator.2.1 30 = .ok (.aload_n 0, 1) := by decide +kernel
theorem dX0_numerator_31 : decode M_X0_numerator.2.1 31 = .ok (.getfield 32, 3) := by decide +kernel
theorem dX0_numerator_34 : decode M_X0_numerator.2.1 34 = .ok (.invokestatic 110, 3) := by decide +kernel
theorem dX0_numerator_37 : decode M_X0_numerator.2.1 37 = .ok (.ldiv, 1) := by decide +kernel
theorem dX0_numerator_38 : decode M_X0_numerator.2.1 38 = .ok (.lreturn, 1) := by decide +kernel
theorem dX0_denominator_0 : decode M_X0_denominator.2.1 0 = .ok (.aload_n 0, 1) := by decide +kernel
theorem dX0_denominator_1 : decode M_X0_denominator.2.1 1 = .ok (.iload_n 1, 1) := by decide +kernel
theorem dX0_denominator_2 : decode M_X0_denominator.2.1 2 = .ok (.invokevirtual 92, 3) := by decide +kernel
theorem dX0_denominator_5 : decode M_X0_denominator.2.1 5 = .ok (.istore_n 2, 1) := by decide +kernel
theorem dX0_denominator_6 : decode M_X0_denominator.2.1 6 = .ok (.iload_n 2, 1) := by decide +kernel
theorem dX0_denominator_7 : decode M_X0_denominator.2.1 7 = .ok (.ifCond .ge 5, 3) := by decide +kernel
theorem dX0_denominator_10 : decode M_X0_denominator.2.1 10 = .ok (.lconst 1, 1) := by decide +kernel
theorem dX0_denominator_11 : decode M_X0_denominator.2.1 11 = .ok (.lreturn, 1) := by decide +kernel
theorem dX0_denominator_12 : decode M_X0_denominator.2.1 12 = .ok (.aload_n 0, 1) := by decide +kernel
theorem dX0_denominator_13 : decode M_X0_denominator.2.1 13 = .ok (.getfield 32, 3) := by decide +kernel
theorem dX0_denominator_16 : decode M_X0_denominator.2.1 16 = .ok (.aload_n 0, 1) := by decide +kernel
theorem dX0_denominator_17 : decode M_X0_denominator.2.1 17 = .ok (.getfield 15, 3) := by decide +kernel
theorem dX0_denominator_20 : decode M_X0_denominator.2.1 20 = .ok (.iload_n 2, 1) := by decide +kernel
theorem dX0_denominator_21 : decode M_X0_denominator.2.1 21 = .ok (.aaload, 1) := by decide +kernel
theorem dX0_denominator_22 : decode M_X0_denominator.2.1 22 = .ok (.bipush 13, 2) := by decide +kernel
theorem dX0_denominator_24 : decode M_X0_denominator.2.1 24 = .ok (.laload, 1) := by decide +kernel
theorem dX0_denominator_25 : decode M_X0_denominator.2.1 25 = .ok (.aload_n 0, 1) := by decide +kernel
theorem dX0_denominator_26 : decode M_X0_denominator.2.1 26 = .ok (.getfield 32, 3) := by decide +kernel
theorem dX0_denominator_29 : decode M_X0_denominator.2.1 29 = .ok (.invokestatic 110, 3) := by decide +kernel
theorem dX0_denominator_32 : decode M_X0_denominator.2.1 32 = .ok (.ldiv, 1) := by decide +kernel
theorem dX0_denominator_33 : decode M_X0_denominator.2.1 33 = .ok (.lreturn, 1) := by decide +kernel
theorem dX0_commonDivisor_0 : decode M_X0_commonDivisor.2.1 0 = .ok (.lload_n 0, 1) := by decide +kernel
theorem dX0_commonDivisor_1 : decode M_X0_commonDivisor.2.1 1 = .ok (.invokestatic 114, 3) := by decide +kernel
theorem dX0_commonDivisor_4 : decode M_X0_commonDivisor.2.1 4 = .ok (.lstore 4, 2) := by decide +kernel
theorem dX0_commonDivisor_6 : decode M_X0_commonDivisor.2.1 6 = .ok (.lload_n 2, 1) := by decide +kernel
theorem dX0_commonDivisor_7 : decode M_X0_commonDivisor.2.1 7 = .ok (.invokestatic 114, 3) := by decide +kernel
theorem dX0_commonDivisor_10 : decode M_X0_commonDivisor.2.1 10 = .ok (.lstore 6, 2) := by decide +kernel
theorem dX0_commonDivisor_12 : decode M_X0_commonDivisor.2.1 12 = .ok (.iconst 0, 1) := by decide +kernel
theorem dX0_commonDivisor_13 : decode M_X0_commonDivisor.2.1 13 = .ok (.istore 8, 2) := by decide +kernel
theorem dX0_commonDivisor_15 : decode M_X0_commonDivisor.2.1 15 = .ok (.iload 8, 2) := by decide +kernel
theorem dX0_commonDivisor_17 : decode M_X0_commonDivisor.2.1 17 = .ok (.sipush 200, 3) := by decide +kernel
theorem dX0_commonDivisor_20 : decode M_X0_commonDivisor.2.1 20 = .ok (.if_icmp .ge 31, 3) := by decide +kernel
theorem dX0_commonDivisor_23 : decode M_X0_commonDivisor.2.1 23 = .ok (.lload 6, 2) := by decide +kernel
theorem dX0_commonDivisor_25 : decode M_X0_commonDivisor.2.1 25 = .ok (.lconst 0, 1) := by decide +kernel
theorem dX0_commonDivisor_26 : decode M_X0_commonDivisor.2.1 26 = .ok (.lcmp, 1) := by decide +kernel
theorem dX0_commonDivisor_27 : decode M_X0_commonDivisor.2.1 27 = .ok (.ifCond .eq 24, 3) := by decide +kernel
theorem dX0_commonDivisor_30 : decode M_X0_commonDivisor.2.1 30 = .ok (.lload 4, 2) := by decide +kernel
theorem dX0_commonDivisor_32 : decode M_X0_commonDivisor.2.1 32 = .ok (.lload 6, 2) := by decide +kernel
theorem dX0_commonDivisor_34 : decode M_X0_commonDivisor.2.1 34 = .ok (.lrem, 1) := by decide +kernel
theorem dX0_commonDivisor_35 : decode M_X0_commonDivisor.2.1 35 = .ok (.lstore 9, 2) := by decide +kernel
theorem dX0_commonDivisor_37 : decode M_X0_commonDivisor.2.1 37 = .ok (.lload 6, 2) := by decide +kernel
theorem dX0_commonDivisor_39 : decode M_X0_commonDivisor.2.1 39 = .ok (.lstore 4, 2) := by decide +kernel
theorem dX0_commonDivisor_41 : decode M_X0_commonDivisor.2.1 41 = .ok (.lload 9, 2) := by decide +kernel
theorem dX0_commonDivisor_43 : decode M_X0_commonDivisor.2.1 43 = .ok (.lstore 6, 2) := by decide +kernel
theorem dX0_commonDivisor_45 : decode M_X0_commonDivisor.2.1 45 = .ok (.iinc 8 1, 3) := by decide +kernel
theorem dX0_commonDivisor_48 : decode M_X0_commonDivisor.2.1 48 = .ok (.goto (-33), 3) := by decide +kernel
theorem dX0_commonDivisor_51 : decode M_X0_commonDivisor.2.1 51 = .ok (.lload 4, 2) := by decide +kernel
theorem dX0_commonDivisor_53 : decode M_X0_commonDivisor.2.1 53 = .ok (.lconst 0, 1) := by decide +kernel
theorem dX0_commonDivisor_54 : decode M_X0_commonDivisor.2.1 54 = .ok (.lcmp, 1) := by decide +kernel
theorem dX0_commonDivisor_55 : decode M_X0_commonDivisor.2.1 55 = .ok (.ifCond .ne 7, 3) := by decide +kernel
theorem dX0_commonDivisor_58 : decode M_X0_commonDivisor.2.1 58 = .ok (.lconst 1, 1) := by decide +kernel
theorem dX0_commonDivisor_59 : decode M_X0_commonDivisor.2.1 59 = .ok (.goto 5, 3) := by decide +kernel
theorem dX0_commonDivisor_62 : decode M_X0_commonDivisor.2.1 62 = .ok (.lload 4, 2) := by decide +kernel
theorem dX0_commonDivisor_64 : decode M_X0_commonDivisor.2.1 64 = .ok (.lreturn, 1) := by decide +kernel
theorem dX1_init_0 : decode M_X1_init.2.1 0 = .ok (.aload_n 0, 1) := by decide +kernel
theorem dX1_init_1 : decode M_X1_init.2.1 1 = .ok (.invokespecial 3, 3) := by decide +kernel
theorem dX1_init_4 : decode M_X1_init.2.1 4 = .ok (.aload_n 0, 1) := by decide +kernel
theorem dX1_init_5 : decode M_X1_init.2.1 5 = .ok (.iconst 4, 1) := by decide +kernel
theorem dX1_init_6 : decode M_X1_init.2.1 6 = .ok (.newarray .int, 2) := by decide +kernel
theorem dX1_init_8 : decode M_X1_init.2.1 8 = .ok (.putfield 9, 3) := by decide +kernel
theorem dX1_init_11 : decode M_X1_init.2.1 11 = .ok (.aload_n 0, 1) := by decide +kernel
theorem dX1_init_12 : decode M_X1_init.2.1 12 = .ok (.iconst 4, 1) := by decide +kernel
theorem dX1_init_13 : decode M_X1_init.2.1 13 = .ok (.newarray .int, 2) := by decide +kernel
theorem dX1_init_15 : decode M_X1_init.2.1 15 = .ok (.putfield 15, 3) := by decide +kernel
theorem dX1_init_18 : decode M_X1_init.2.1 18 = .ok (.aload_n 0, 1) := by decide +kernel
theorem dX1_init_19 : decode M_X1_init.2.1 19 = .ok (.iconst 4, 1) := by decide +kernel
theorem dX1_init_20 : decode M_X1_init.2.1 20 = .ok (.newarray .int, 2) := by decide +kernel
theorem dX1_init_22 : decode M_X1_init.2.1 22 = .ok (.putfield 18, 3) := by decide +kernel
theorem dX1_init_25 : decode M_X1_init.2.1 25 = .ok (.aload_n 0, 1) := by decide +kernel
theorem dX1_init_26 : decode M_X1_init.2.1 26 = .ok (.iconst 4, 1) := by decide +kernel
theorem dX1_init_27 : decode M_X1_init.2.1 27 = .ok (.newarray .int, 2) := by decide +kernel
theorem dX1_init_29 : decode M_X1_init.2.1 29 = .ok (.putfield 21, 3) := by decide +kernel
theorem dX1_init_32 : decode M_X1_init.2.1 32 = .ok (.aload_n 0, 1) := by decide +kernel
theorem dX1_init_33 : decode M_X1_init.2.1 33 = .ok (.iconst 4, 1) := by decide +kernel
theorem dX1_init_34 : decode M_X1_init.2.1 34 = .ok (.newarray .int, 2) := by decide +kernel
theorem dX1_init_36 : decode M_X1_init.2.1 36 = .ok (.putfield 24, 3) := by decide +kernel
theorem dX1_init_39 : decode M_X1_init.2.1 39 = .ok (.aload_n 0, 1) := by decide +kernel
theorem dX1_init_40 : decode M_X1_init.2.1 40 = .ok (.bipush 12, 2) := by decide +kernel
theorem dX1_init_42 : decode M_X1_init.2.1 42 = .ok (.newarray .int, 2) := by decide +kernel
theorem dX1_init_44 : decode M_X1_init.2.1 44 = .ok (.putfield 27, 3) := by decide +kernel
theorem dX1_init_47 : decode M_X1_init.2.1 47 = .ok (.aload_n 0, 1) := by decide +kernel
theorem dX1_init_48 : decode M_X1_init.2.1 48 = .ok (.bipush 12, 2) := by decide +kernel
theorem dX1_init_50 : decode M_X1_init.2.1 50 = .ok (.newarray .int, 2) := by decide +kernel
theorem dX1_init_52 : decode M_X1_init.2.1 52 = .ok (.putfield 30, 3) := by decide +kernel
theorem dX1_init_55 : decode M_X1_init.2.1 55 = .ok (.aload_n 0, 1) := by decide +kernel
theorem dX1_init_56 : decode M_X1_init.2.1 56 = .ok (.bipush 12, 2) := by decide +kernel
theorem dX1_init_58 : decode M_X1_init.2.1 58 = .ok (.newarray .int, 2) := by decide +kernel
theorem dX1_init_60 : decode M_X1_init.2.1 60 = .ok (.putfield 33, 3) := by decide +kernel
theorem dX1_init_63 : decode M_X1_init.2.1 63 = .ok (.aload_n 0, 1) := by decide +kernel
theorem dX1_init_64 : decode M_X1_init.2.1 64 = .ok (.iconst 0, 1) := by decide +kernel
theorem dX1_init_65 : decode M_X1_init.2.1 65 = .ok (.putfield 36, 3) := by decide +kernel
theorem dX1_init_68 : decode M_X1_init.2.1 68 = .ok (.aload_n 0, 1) := by decide +kernel
theorem dX1_init_69 : decode M_X1_init.2.1 69 = .ok (.iconst 0, 1) := by decide +kernel
theorem dX1_init_70 : decode M_X1_init.2.1 70 = .ok (.putfield 40, 3) := by decide +kernel
theorem dX1_init_73 : decode M_X1_init.2.1 73 = .ok (.return_, 1) := by decide +kernel
theorem dX1_find_0 : decode M_X1_find.2.1 0 = .ok (.aload_n 0, 1) := by decide +kernel
theorem dX1_find_1 : decode M_X1_find.2.1 1 = .ok (.aload_n 1, 1) := by decide +kernel
theorem dX1_find_2 : decode M_X1_find.2.1 2 = .ok (.invokevirtual 43, 3) := by decide +kernel
theorem dX1_find_5 : decode M_X1_find.2.1 5 = .ok (.iconst 4, 1) := by decide +kernel
theorem dX1_find_6 : decode M_X1_find.2.1 6 = .ok (.invokestatic 49, 3) := by decide +kernel
theorem dX1_find_9 : decode M_X1_find.2.1 9 = .ok (.putfield 36, 3) := by decide +kernel
theorem dX1_find_12 : decode M_X1_find.2.1 12 = .ok (.aload_n 0, 1) := by decide +kernel
theorem dX1_find_13 : decode M_X1_find.2.1 13 = .ok (.iconst 0, 1) := by decide +kernel
theorem dX1_find_14 : decode M_X1_find.2.1 14 = .ok (.putfield 40, 3) := by decide +kernel
theorem dX1_find_17 : decode M_X1_find.2.1 17 = .ok (.iconst 0, 1) := by decide +kernel
theorem dX1_find_18 : decode M_X1_find.2.1 18 = .ok (.istore_n 2, 1) := by decide +kernel
theorem dX1_find_19 : decode M_X1_find.2.1 19 = .ok (.iload_n 2, 1) := by decide +kernel
theorem dX1_find_20 : decode M_X1_find.2.1 20 = .ok (.aload_n 0, 1) := by decide +kernel
theorem dX1_find_21 : decode M_X1_find.2.1 21 = .ok (.getfield 36, 3) := by decide +kernel
theorem dX1_find_24 : decode M_X1_find.2.1 24 = .ok (.if_icmp .ge 64, 3) := by decide +kernel
theorem dX1_find_27 : decode M_X1_find.2.1 27 = .ok (.aload_n 0, 1) := by decide +kernel
theorem dX1_find_28 : decode M_X1_find.2.1 28 = .ok (.getfield 9, 3) := by decide +kernel
theorem dX1_find_31 : decode M_X1_find.2.1 31 = .ok (.iload_n 2, 1) := by decide +kernel
theorem dX1_find_32 : decode M_X1_find.2.1 32 = .ok (.aload_n 1, 1) := by decide +kernel
theorem dX1_find_33 : decode M_X1_find.2.1 33 = .ok (.iload_n 2, 1) := by decide +kernel
theorem dX1_find_34 : decode M_X1_find.2.1 34 = .ok (.iconst 0, 1) := by decide +kernel
end
section
theorem dX1_find_35 : decode M_X1_find.2.1 35 = .ok (.invokevirtual 55, 3) := by decide +kernel
theorem dX1_find_38 : decode M_X1_find.2.1 38 = .ok (.iastore, 1) := by decide +kernel
theorem dX1_find_39 : decode M_X1_find.2.1 39 = .ok (.aload_n 0, 1) := by decide +kernel
theorem dX1_find_40 : decode M_X1_find.2.1 40 = .ok (.getfield 15, 3) := by decide +kernel
theorem dX1_find_43 : decode M_X1_find.2.1 43 = .ok (.iload_n 2, 1) := by decide +kernel
theorem dX1_find_44 : decode M_X1_find.2.1 44 = .ok (.aload_n 0, 1) := by decide +kernel
theorem dX1_find_45 : decode M_X1_find.2.1 45 = .ok (.getfield 9, 3) := by decide +kernel
theorem dX1_find_48 : decode M_X1_find.2.1 48 = .ok (.iload_n 2, 1) := by decide +kernel
theorem dX1_find_49 : decode M_X1_find.2.1 49 = .ok (.iaload, 1) := by decide +kernel
theorem dX1_find_50 : decode M_X1_find.2.1 50 = .ok (.iconst 2, 1) := by decide +kernel
theorem dX1_find_51 : decode M_X1_find.2.1 51 = .ok (.aload_n 1, 1) := by decide +kernel
theorem dX1_find_52 : decode M_X1_find.2.1 52 = .ok (.iload_n 2, 1) := by decide +kernel
theorem dX1_find_53 : decode M_X1_find.2.1 53 = .ok (.iconst 1, 1) := by decide +kernel
theorem dX1_find_54 : decode M_X1_find.2.1 54 = .ok (.invokevirtual 55, 3) := by decide +kernel
theorem dX1_find_57 : decode M_X1_find.2.1 57 = .ok (.imul, 1) := by decide +kernel
theorem dX1_find_58 : decode M_X1_find.2.1 58 = .ok (.iadd, 1) := by decide +kernel
theorem dX1_find_59 : decode M_X1_find.2.1 59 = .ok (.iastore, 1) := by decide +kernel
theorem dX1_find_60 : decode M_X1_find.2.1 60 = .ok (.aload_n 0, 1) := by decide +kernel
theorem dX1_find_61 : decode M_X1_find.2.1 61 = .ok (.getfield 24, 3) := by decide +kernel
theorem dX1_find_64 : decode M_X1_find.2.1 64 = .ok (.iload_n 2, 1) := by decide +kernel
theorem dX1_find_65 : decode M_X1_find.2.1 65 = .ok (.iconst 0, 1) := by decide +kernel
theorem dX1_find_66 : decode M_X1_find.2.1 66 = .ok (.iastore, 1) := by decide +kernel
theorem dX1_find_67 : decode M_X1_find.2.1 67 = .ok (.aload_n 0, 1) := by decide +kernel
theorem dX1_find_68 : decode M_X1_find.2.1 68 = .ok (.iload_n 2, 1) := by decide +kernel
theorem dX1_find_69 : decode M_X1_find.2.1 69 = .ok (.invokevirtual 58, 3) := by decide +kernel
theorem dX1_find_72 : decode M_X1_find.2.1 72 = .ok (.aload_n 0, 1) := by decide +kernel
theorem dX1_find_73 : decode M_X1_find.2.1 73 = .ok (.iload_n 2, 1) := by decide +kernel
theorem dX1_find_74 : decode M_X1_find.2.1 74 = .ok (.invokevirtual 62, 3) := by decide +kernel
theorem dX1_find_77 : decode M_X1_find.2.1 77 = .ok (.aload_n 0, 1) := by decide +kernel
theorem dX1_find_78 : decode M_X1_find.2.1 78 = .ok (.iload_n 2, 1) := by decide +kernel
theorem dX1_find_79 : decode M_X1_find.2.1 79 = .ok (.invokevirtual 65, 3) := by decide +kernel
theorem dX1_find_82 : decode M_X1_find.2.1 82 = .ok (.iinc 2 1, 3) := by decide +kernel
theorem dX1_find_85 : decode M_X1_find.2.1 85 = .ok (.goto (-66), 3) := by decide +kernel
theorem dX1_find_88 : decode M_X1_find.2.1 88 = .ok (.return_, 1) := by decide +kernel
theorem dX1_findLevel_0 : decode M_X1_findLevel.2.1 0 = .ok (.iconst 0, 1) := by decide +kernel
theorem dX1_findLevel_1 : decode M_X1_findLevel.2.1 1 = .ok (.istore_n 2, 1) := by decide +kernel
theorem dX1_findLevel_2 : decode M_X1_findLevel.2.1 2 = .ok (.iconst 0, 1) := by decide +kernel
theorem dX1_findLevel_3 : decode M_X1_findLevel.2.1 3 = .ok (.istore_n 3, 1) := by decide +kernel
theorem dX1_findLevel_4 : decode M_X1_findLevel.2.1 4 = .ok (.iload_n 3, 1) := by decide +kernel
theorem dX1_findLevel_5 : decode M_X1_findLevel.2.1 5 = .ok (.iload_n 1, 1) := by decide +kernel
theorem dX1_findLevel_6 : decode M_X1_findLevel.2.1 6 = .ok (.if_icmp .ge 31, 3) := by decide +kernel
theorem dX1_findLevel_9 : decode M_X1_findLevel.2.1 9 = .ok (.aload_n 0, 1) := by decide +kernel
theorem dX1_findLevel_10 : decode M_X1_findLevel.2.1 10 = .ok (.iload_n 3, 1) := by decide +kernel
theorem dX1_findLevel_11 : decode M_X1_findLevel.2.1 11 = .ok (.iload_n 1, 1) := by decide +kernel
theorem dX1_findLevel_12 : decode M_X1_findLevel.2.1 12 = .ok (.invokevirtual 68, 3) := by decide +kernel
theorem dX1_findLevel_15 : decode M_X1_findLevel.2.1 15 = .ok (.ifCond .eq 16, 3) := by decide +kernel
theorem dX1_findLevel_18 : decode M_X1_findLevel.2.1 18 = .ok (.iload_n 2, 1) := by decide +kernel
theorem dX1_findLevel_19 : decode M_X1_findLevel.2.1 19 = .ok (.aload_n 0, 1) := by decide +kernel
theorem dX1_findLevel_20 : decode M_X1_findLevel.2.1 20 = .ok (.getfield 18, 3) := by decide +kernel
theorem dX1_findLevel_23 : decode M_X1_findLevel.2.1 23 = .ok (.iload_n 3, 1) := by decide +kernel
theorem dX1_findLevel_24 : decode M_X1_findLevel.2.1 24 = .ok (.iaload, 1) := by decide +kernel
theorem dX1_findLevel_25 : decode M_X1_findLevel.2.1 25 = .ok (.iconst 1, 1) := by decide +kernel
theorem dX1_findLevel_26 : decode M_X1_findLevel.2.1 26 = .ok (.iadd, 1) := by decide +kernel
theorem dX1_findLevel_27 : decode M_X1_findLevel.2.1 27 = .ok (.invokestatic 72, 3) := by decide +kernel
theorem dX1_findLevel_30 : decode M_X1_findLevel.2.1 30 = .ok (.istore_n 2, 1) := by decide +kernel
theorem dX1_findLevel_31 : decode M_X1_findLevel.2.1 31 = .ok (.iinc 3 1, 3) := by decide +kernel
theorem dX1_findLevel_34 : decode M_X1_findLevel.2.1 34 = .ok (.goto (-30), 3) := by decide +kernel
theorem dX1_findLevel_37 : decode M_X1_findLevel.2.1 37 = .ok (.aload_n 0, 1) := by decide +kernel
theorem dX1_findLevel_38 : decode M_X1_findLevel.2.1 38 = .ok (.getfield 18, 3) := by decide +kernel
theorem dX1_findLevel_41 : decode M_X1_findLevel.2.1 41 = .ok (.iload_n 1, 1) := by decide +kernel
theorem dX1_findLevel_42 : decode M_X1_findLevel.2.1 42 = .ok (.iload_n 2, 1) := by decide +kernel
theorem dX1_findLevel_43 : decode M_X1_findLevel.2.1 43 = .ok (.iastore, 1) := by decide +kernel
theorem dX1_findLevel_44 : decode M_X1_findLevel.2.1 44 = .ok (.return_, 1) := by decide +kernel
theorem dX1_findUnder_0 : decode M_X1_findUnder.2.1 0 = .ok (.aload_n 0, 1) := by decide +kernel
theorem dX1_findUnder_1 : decode M_X1_findUnder.2.1 1 = .ok (.getfield 21, 3) := by decide +kernel
theorem dX1_findUnder_4 : decode M_X1_findUnder.2.1 4 = .ok (.iload_n 1, 1) := by decide +kernel
theorem dX1_findUnder_5 : decode M_X1_findUnder.2.1 5 = .ok (.iconst 0, 1) := by decide +kernel
theorem dX1_findUnder_6 : decode M_X1_findUnder.2.1 6 = .ok (.iastore, 1) := by decide +kernel
theorem dX1_findUnder_7 : decode M_X1_findUnder.2.1 7 = .ok (.iconst 0, 1) := by decide +kernel
theorem dX1_findUnder_8 : decode M_X1_findUnder.2.1 8 = .ok (.istore_n 2, 1) := by decide +kernel
theorem dX1_findUnder_9 : decode M_X1_findUnder.2.1 9 = .ok (.iload_n 2, 1) := by decide +kernel
theorem dX1_findUnder_10 : decode M_X1_findUnder.2.1 10 = .ok (.iload_n 1, 1) := by decide +kernel
theorem dX1_findUnder_11 : decode M_X1_findUnder.2.1 11 = .ok (.if_icmp .ge 59, 3) := by decide +kernel
theorem dX1_findUnder_14 : decode M_X1_findUnder.2.1 14 = .ok (.aload_n 0, 1) := by decide +kernel
theorem dX1_findUnder_15 : decode M_X1_findUnder.2.1 15 = .ok (.getfield 18, 3) := by decide +kernel
theorem dX1_findUnder_18 : decode M_X1_findUnder.2.1 18 = .ok (.iload_n 2, 1) := by decide +kernel
theorem dX1_findUnder_19 : decode M_X1_findUnder.2.1 19 = .ok (.iaload, 1) := by decide +kernel
theorem dX1_findUnder_20 : decode M_X1_findUnder.2.1 20 = .ok (.aload_n 0, 1) := by decide +kernel
theorem dX1_findUnder_21 : decode M_X1_findUnder.2.1 21 = .ok (.getfield 18, 3) := by decide +kernel
theorem dX1_findUnder_24 : decode M_X1_findUnder.2.1 24 = .ok (.iload_n 1, 1) := by decide +kernel
theorem dX1_findUnder_25 : decode M_X1_findUnder.2.1 25 = .ok (.iaload, 1) := by decide +kernel
theorem dX1_findUnder_26 : decode M_X1_findUnder.2.1 26 = .ok (.iconst 1, 1) := by decide +kernel
theorem dX1_findUnder_27 : decode M_X1_findUnder.2.1 27 = .ok (.isub, 1) := by decide +kernel
theorem dX1_findUnder_28 : decode M_X1_findUnder.2.1 28 = .ok (.if_icmp .ne 36, 3) := by decide +kernel
theorem dX1_findUnder_31 : decode M_X1_findUnder.2.1 31 = .ok (.aload_n 0, 1) := by decide +kernel
theorem dX1_findUnder_32 : decode M_X1_findUnder.2.1 32 = .ok (.iload_n 2, 1) := by decide +kernel
theorem dX1_findUnder_33 : decode M_X1_findUnder.2.1 33 = .ok (.iload_n 1, 1) := by decide +kernel
theorem dX1_findUnder_34 : decode M_X1_findUnder.2.1 34 = .ok (.invokevirtual 68, 3) := by decide +kernel
theorem dX1_findUnder_37 : decode M_X1_findUnder.2.1 37 = .ok (.ifCond .eq 27, 3) := by decide +kernel
theorem dX1_findUnder_40 : decode M_X1_findUnder.2.1 40 = .ok (.aload_n 0, 1) := by decide +kernel
theorem dX1_findUnder_41 : decode M_X1_findUnder.2.1 41 = .ok (.getfield 21, 3) := by decide +kernel
theorem dX1_findUnder_44 : decode M_X1_findUnder.2.1 44 = .ok (.iload_n 1, 1) := by decide +kernel
theorem dX1_findUnder_45 : decode M_X1_findUnder.2.1 45 = .ok (.dup2, 1) := by decide +kernel
theorem dX1_findUnder_46 : decode M_X1_findUnder.2.1 46 = .ok (.iaload, 1) := by decide +kernel
theorem dX1_findUnder_47 : decode M_X1_findUnder.2.1 47 = .ok (.iconst 1, 1) := by decide +kernel
theorem dX1_findUnder_48 : decode M_X1_findUnder.2.1 48 = .ok (.iload_n 2, 1) := by decide +kernel
theorem dX1_findUnder_49 : decode M_X1_findUnder.2.1 49 = .ok (.ishl, 1) := by decide +kernel
theorem dX1_findUnder_50 : decode M_X1_findUnder.2.1 50 = .ok (.ior, 1) := by decide +kernel
theorem dX1_findUnder_51 : decode M_X1_findUnder.2.1 51 = .ok (.iastore, 1) := by decide +kernel
theorem dX1_findUnder_52 : decode M_X1_findUnder.2.1 52 = .ok (.aload_n 0, 1) := by decide +kernel
theorem dX1_findUnder_53 : decode M_X1_findUnder.2.1 53 = .ok (.getfield 24, 3) := by decide +kernel
theorem dX1_findUnder_56 : decode M_X1_findUnder.2.1 56 = .ok (.iload_n 2, 1) := by decide +kernel
theorem dX1_findUnder_57 : decode M_X1_findUnder.2.1 57 = .ok (.dup2, 1) := by decide +kernel
theorem dX1_findUnder_58 : decode M_X1_findUnder.2.1 58 = .ok (.iaload, 1) := by decide +kernel
theorem dX1_findUnder_59 : decode M_X1_findUnder.2.1 59 = .ok (.iconst 1, 1) := by decide +kernel
theorem dX1_findUnder_60 : decode M_X1_findUnder.2.1 60 = .ok (.iload_n 1, 1) := by decide +kernel
theorem dX1_findUnder_61 : decode M_X1_findUnder.2.1 61 = .ok (.ishl, 1) := by decide +kernel
theorem dX1_findUnder_62 : decode M_X1_findUnder.2.1 62 = .ok (.ior, 1) := by decide +kernel
theorem dX1_findUnder_63 : decode M_X1_findUnder.2.1 63 = .ok (.iastore, 1) := by decide +kernel
theorem dX1_findUnder_64 : decode M_X1_findUnder.2.1 64 = .ok (.iinc 2 1, 3) := by decide +kernel
theorem dX1_findUnder_67 : decode M_X1_findUnder.2.1 67 = .ok (.goto (-58), 3) := by decide +kernel
theorem dX1_findUnder_70 : decode M_X1_findUnder.2.1 70 = .ok (.return_, 1) := by decide +kernel
theorem dX1_findContacts_0 : decode M_X1_findContacts.2.1 0 = .ok (.aload_n 0, 1) := by decide +kernel
theorem dX1_findContacts_1 : decode M_X1_findContacts.2.1 1 = .ok (.getfield 21, 3) := by decide +kernel
theorem dX1_findContacts_4 : decode M_X1_findContacts.2.1 4 = .ok (.iload_n 1, 1) := by decide +kernel
theorem dX1_findContacts_5 : decode M_X1_findContacts.2.1 5 = .ok (.iaload, 1) := by decide +kernel
theorem dX1_findContacts_6 : decode M_X1_findContacts.2.1 6 = .ok (.ifCond .ne 29, 3) := by decide +kernel
theorem dX1_findContacts_9 : decode M_X1_findContacts.2.1 9 = .ok (.aload_n 0, 1) := by decide +kernel
theorem dX1_findContacts_10 : decode M_X1_findContacts.2.1 10 = .ok (.iload_n 1, 1) := by decide +kernel
theorem dX1_findContacts_11 : decode M_X1_findContacts.2.1 11 = .ok (.bipush (-9), 2) := by decide +kernel
theorem dX1_findContacts_13 : decode M_X1_findContacts.2.1 13 = .ok (.aload_n 0, 1) := by decide +kernel
theorem dX1_findContacts_14 : decode M_X1_findContacts.2.1 14 = .ok (.getfield 9, 3) := by decide +kernel
theorem dX1_findContacts_17 : decode M_X1_findContacts.2.1 17 = .ok (.iload_n 1, 1) := by decide +kernel
theorem dX1_findContacts_18 : decode M_X1_findContacts.2.1 18 = .ok (.iaload, 1) := by decide +kernel
theorem dX1_findContacts_19 : decode M_X1_findContacts.2.1 19 = .ok (.invokevirtual 75, 3) := by decide +kernel
theorem dX1_findContacts_22 : decode M_X1_findContacts.2.1 22 = .ok (.aload_n 0, 1) := by decide +kernel
theorem dX1_findContacts_23 : decode M_X1_findContacts.2.1 23 = .ok (.iload_n 1, 1) := by decide +kernel
theorem dX1_findContacts_24 : decode M_X1_findContacts.2.1 24 = .ok (.bipush (-9), 2) := by decide +kernel
theorem dX1_findContacts_26 : decode M_X1_findContacts.2.1 26 = .ok (.aload_n 0, 1) := by decide +kernel
theorem dX1_findContacts_27 : decode M_X1_findContacts.2.1 27 = .ok (.getfield 15, 3) := by decide +kernel
theorem dX1_findContacts_30 : decode M_X1_findContacts.2.1 30 = .ok (.iload_n 1, 1) := by decide +kernel
theorem dX1_findContacts_31 : decode M_X1_findContacts.2.1 31 = .ok (.iaload, 1) := by decide +kernel
theorem dX1_findContacts_32 : decode M_X1_findContacts.2.1 32 = .ok (.invokevirtual 75, 3) := by decide +kernel
theorem dX1_findContacts_35 : decode M_X1_findContacts.2.1 35 = .ok (.iconst 0, 1) := by decide +kernel
theorem dX1_findContacts_36 : decode M_X1_findContacts.2.1 36 = .ok (.istore_n 2, 1) := by decide +kernel
theorem dX1_findContacts_37 : decode M_X1_findContacts.2.1 37 = .ok (.iload_n 2, 1) := by decide +kernel
theorem dX1_findContacts_38 : decode M_X1_findContacts.2.1 38 = .ok (.iload_n 1, 1) := by decide +kernel
theorem dX1_findContacts_39 : decode M_X1_findContacts.2.1 39 = .ok (.if_icmp .ge 65, 3) := by decide +kernel
theorem dX1_findContacts_42 : decode M_X1_findContacts.2.1 42 = .ok (.aload_n 0, 1) := by decide +kernel
theorem dX1_findContacts_43 : decode M_X1_findContacts.2.1 43 = .ok (.getfield 21, 3) := by decide +kernel
theorem dX1_findContacts_46 : decode M_X1_findContacts.2.1 46 = .ok (.iload_n 1, 1) := by decide +kernel
theorem dX1_findContacts_47 : decode M_X1_findContacts.2.1 47 = .ok (.iaload, 1) := by decide +kernel
theorem dX1_findContacts_48 : decode M_X1_findContacts.2.1 48 = .ok (.iload_n 2, 1) := by decide +kernel
theorem dX1_findContacts_49 : decode M_X1_findContacts.2.1 49 = .ok (.ishr, 1) := by decide +kernel
theorem dX1_findContacts_50 : decode M_X1_findContacts.2.1 50 = .ok (.iconst 1, 1) := by decide +kernel
theorem dX1_findContacts_51 : decode M_X1_findContacts.2.1 51 = .ok (.iand, 1) := by decide +kernel
theorem dX1_findContacts_52 : decode M_X1_findContacts.2.1 52 = .ok (.iconst 1, 1) := by decide +kernel
theorem dX1_findContacts_53 : decode M_X1_findContacts.2.1 53 = .ok (.if_icmp .ne 45, 3) := by decide +kernel
theorem dX1_findContacts_56 : decode M_X1_findContacts.2.1 56 = .ok (.aload_n 0, 1) := by decide +kernel
theorem dX1_findContacts_57 : decode M_X1_findContacts.2.1 57 = .ok (.iload_n 1, 1) := by decide +kernel
theorem dX1_findContacts_58 : decode M_X1_findContacts.2.1 58 = .ok (.iload_n 2, 1) := by decide +kernel
theorem dX1_findContacts_59 : decode M_X1_findContacts.2.1 59 = .ok (.aload_n 0, 1) := by decide +kernel
theorem dX1_findContacts_60 : decode M_X1_findContacts.2.1 60 = .ok (.getfield 9, 3) := by decide +kernel
theorem dX1_findContacts_63 : decode M_X1_findContacts.2.1 63 = .ok (.iload_n 2, 1) := by decide +kernel
theorem dX1_findContacts_64 : decode M_X1_findContacts.2.1 64 = .ok (.iaload, 1) := by decide +kernel
theorem dX1_findContacts_65 : decode M_X1_findContacts.2.1 65 = .ok (.aload_n 0, 1) := by decide +kernel
theorem dX1_findContacts_66 : decode M_X1_findContacts.2.1 66 = .ok (.getfield 9, 3) := by decide +kernel
theorem dX1_findContacts_69 : decode M_X1_findContacts.2.1 69 = .ok (.iload_n 1, 1) := by decide +kernel
theorem dX1_findContacts_70 : decode M_X1_findContacts.2.1 70 = .ok (.iaload, 1) := by decide +kernel
theorem dX1_findContacts_71 : decode M_X1_findContacts.2.1 71 = .ok (.invokestatic 72, 3) := by decide +kernel
theorem dX1_findContacts_74 : decode M_X1_findContacts.2.1 74 = .ok (.invokevirtual 75, 3) := by decide +kernel
theorem dX1_findContacts_77 : decode M_X1_findContacts.2.1 77 = .ok (.aload_n 0, 1) := by decide +kernel
theorem dX1_findContacts_78 : decode M_X1_findContacts.2.1 78 = .ok (.iload_n 1, 1) := by decide +kernel
theorem dX1_findContacts_79 : decode M_X1_findContacts.2.1 79 = .ok (.iload_n 2, 1) := by decide +kernel
theorem dX1_findContacts_80 : decode M_X1_findContacts.2.1 80 = .ok (.aload_n 0, 1) := by decide +kernel
theorem dX1_findContacts_81 : decode M_X1_findContacts.2.1 81 = .ok (.getfield 15, 3) := by decide +kernel
theorem dX1_findContacts_84 : decode M_X1_findContacts.2.1 84 = .ok (.iload_n 2, 1) := by decide +kernel
theorem dX1_findContacts_85 : decode M_X1_findContacts.2.1 85 = .ok (.iaload, 1) := by decide +kernel
theorem dX1_findContacts_86 : decode M_X1_findContacts.2.1 86 = .ok (.aload_n 0, 1) := by decide +kernel
theorem dX1_findContacts_87 : decode M_X1_findContacts.2.1 87 = .ok (.getfield 15, 3) := by decide +kernel
theorem dX1_findContacts_90 : decode M_X1_findContacts.2.1 90 = .ok (.iload_n 1, 1) := by decide +kernel
theorem dX1_findContacts_91 : decode M_X1_findContacts.2.1 91 = .ok (.iaload, 1) := by decide +kernel
theorem dX1_findContacts_92 : decode M_X1_findContacts.2.1 92 = .ok (.invokestatic 49, 3) := by decide +kernel
theorem dX1_findContacts_95 : decode M_X1_findContacts.2.1 95 = .ok (.invokevirtual 75, 3) := by decide +kernel
theorem dX1_findContacts_98 : decode M_X1_findContacts.2.1 98 = .ok (.iinc 2 1, 3) := by decide +kernel
theorem dX1_findContacts_101 : decode M_X1_findContacts.2.1 101 = .ok (.goto (-64), 3) := by decide +kernel
theorem dX1_findContacts_104 : decode M_X1_findContacts.2.1 104 = .ok (.return_, 1) := by decide +kernel
theorem dX1_addContact_0 : decode M_X1_addContact.2.1 0 = .ok (.aload_n 0, 1) := by decide +kernel
theorem dX1_addContact_1 : decode M_X1_addContact.2.1 1 = .ok (.getfield 40, 3) := by decide +kernel
theorem dX1_addContact_4 : decode M_X1_addContact.2.1 4 = .ok (.bipush 12, 2) := by decide +kernel
theorem dX1_addContact_6 : decode M_X1_addContact.2.1 6 = .ok (.if_icmp .ge 43, 3) := by decide +kernel
theorem dX1_addContact_9 : decode M_X1_addContact.2.1 9 = .ok (.aload_n 0, 1) := by decide +kernel
theorem dX1_addContact_10 : decode M_X1_addContact.2.1 10 = .ok (.getfield 27, 3) := by decide +kernel
theorem dX1_addContact_13 : decode M_X1_addContact.2.1 13 = .ok (.aload_n 0, 1) := by decide +kernel
theorem dX1_addContact_14 : decode M_X1_addContact.2.1 14 = .ok (.getfield 40, 3) := by decide +kernel
theorem dX1_addContact_17 : decode M_X1_addContact.2.1 17 = .ok (.iload_n 1, 1) := by decide +kernel
theorem dX1_addContact_18 : decode M_X1_addContact.2.1 18 = .ok (.iastore, 1) := by decide +kernel
theorem dX1_addContact_19 : decode M_X1_addContact.2.1 19 = .ok (.aload_n 0, 1) := by decide +kernel
theorem dX1_addContact_20 : decode M_X1_addContact.2.1 20 = .ok (.getfield 30, 3) := by decide +kernel
theorem dX1_addContact_23 : decode M_X1_addContact.2.1 23 = .ok (.aload_n 0, 1) := by decide +kernel
theorem dX1_addContact_24 : decode M_X1_addContact.2.1 24 = .ok (.getfield 40, 3) := by decide +kernel
theorem dX1_addContact_27 : decode M_X1_addContact.2.1 27 = .ok (.iload_n 2, 1) := by decide +kernel
theorem dX1_addContact_28 : decode M_X1_addContact.2.1 28 = .ok (.iastore, 1) := by decide +kernel
theorem dX1_addContact_29 : decode M_X1_addContact.2.1 29 = .ok (.aload_n 0, 1) := by decide +kernel
theorem dX1_addContact_30 : decode M_X1_addContact.2.1 30 = .ok (.getfield 33, 3) := by decide +kernel
theorem dX1_addContact_33 : decode M_X1_addContact.2.1 33 = .ok (.aload_n 0, 1) := by decide +kernel
theorem dX1_addContact_34 : decode M_X1_addContact.2.1 34 = .ok (.getfield 40, 3) := by decide +kernel
theorem dX1_addContact_37 : decode M_X1_addContact.2.1 37 = .ok (.iload_n 3, 1) := by decide +kernel
theorem dX1_addContact_38 : decode M_X1_addContact.2.1 38 = .ok (.iastore, 1) := by decide +kernel
theorem dX1_addContact_39 : decode M_X1_addContact.2.1 39 = .ok (.aload_n 0, 1) := by decide +kernel
theorem dX1_addContact_40 : decode M_X1_addContact.2.1 40 = .ok (.dup, 1) := by decide +kernel
theorem dX1_addContact_41 : decode M_X1_addContact.2.1 41 = .ok (.getfield 40, 3) := by decide +kernel
theorem dX1_addContact_44 : decode M_X1_addContact.2.1 44 = .ok (.iconst 1, 1) := by decide +kernel
theorem dX1_addContact_45 : decode M_X1_addContact.2.1 45 = .ok (.iadd, 1) := by decide +kernel
theorem dX1_addContact_46 : decode M_X1_addContact.2.1 46 = .ok (.putfield 40, 3) := by decide +kernel
theorem dX1_addContact_49 : decode M_X1_addContact.2.1 49 = .ok (.return_, 1) := by decide +kernel
theorem dX1_overlap_0 : decode M_X1_overlap.2.1 0 = .ok (.aload_n 0, 1) := by decide +kernel
theorem dX1_overlap_1 : decode M_X1_overlap.2.1 1 = .ok (.getfield 9, 3) := by decide +kernel
theorem dX1_overlap_4 : decode M_X1_overlap.2.1 4 = .ok (.iload_n 1, 1) := by decide +kernel
theorem dX1_overlap_5 : decode M_X1_overlap.2.1 5 = .ok (.iaload, 1) := by decide +kernel
theorem dX1_overlap_6 : decode M_X1_overlap.2.1 6 = .ok (.aload_n 0, 1) := by decide +kernel
theorem dX1_overlap_7 : decode M_X1_overlap.2.1 7 = .ok (.getfield 15, 3) := by decide +kernel
theorem dX1_overlap_10 : decode M_X1_overlap.2.1 10 = .ok (.iload_n 2, 1) := by decide +kernel
theorem dX1_overlap_11 : decode M_X1_overlap.2.1 11 = .ok (.iaload, 1) := by decide +kernel
theorem dX1_overlap_12 : decode M_X1_overlap.2.1 12 = .ok (.if_icmp .ge 22, 3) := by decide +kernel
theorem dX1_overlap_15 : decode M_X1_overlap.2.1 15 = .ok (.aload_n 0, 1) := by decide +kernel
theorem dX1_overlap_16 : decode M_X1_overlap.2.1 16 = .ok (.getfield 9, 3) := by decide +kernel
theorem dX1_overlap_19 : decode M_X1_overlap.2.1 19 = .ok (.iload_n 2, 1) := by decide +kernel
theorem dX1_overlap_20 : decode M_X1_overlap.2.1 20 = .ok (.iaload, 1) := by decide +kernel
theorem dX1_overlap_21 : decode M_X1_overlap.2.1 21 = .ok (.aload_n 0, 1) := by decide +kernel
theorem dX1_overlap_22 : decode M_X1_overlap.2.1 22 = .ok (.getfield 15, 3) := by decide +kernel
theorem dX1_overlap_25 : decode M_X1_overlap.2.1 25 = .ok (.iload_n 1, 1) := by decide +kernel
theorem dX1_overlap_26 : decode M_X1_overlap.2.1 26 = .ok (.iaload, 1) := by decide +kernel
theorem dX1_overlap_27 : decode M_X1_overlap.2.1 27 = .ok (.if_icmp .ge 7, 3) := by decide +kernel
theorem dX1_overlap_30 : decode M_X1_overlap.2.1 30 = .ok (.iconst 1, 1) := by decide +kernel
theorem dX1_overlap_31 : decode M_X1_overlap.2.1 31 = .ok (.goto 4, 3) := by decide +kernel
theorem dX1_overlap_34 : decode M_X1_overlap.2.1 34 = .ok (.iconst 0, 1) := by decide +kernel
theorem dX1_overlap_35 : decode M_X1_overlap.2.1 35 = .ok (.ireturn, 1) := by decide +kernel
theorem dX1_contacts_0 : decode M_X1_contacts.2.1 0 = .ok (.aload_n 0, 1) := by decide +kernel
theorem dX1_contacts_1 : decode M_X1_contacts.2.1 1 = .ok (.getfield 40, 3) := by decide +kernel
theorem dX1_contacts_4 : decode M_X1_contacts.2.1 4 = .ok (.ireturn, 1) := by decide +kernel
theorem dX1_level_0 : decode M_X1_level.2.1 0 = .ok (.iload_n 1, 1) := by decide +kernel
theorem dX1_level_1 : decode M_X1_level.2.1 1 = .ok (.iconst 0, 1) := by decide +kernel
theorem dX1_level_2 : decode M_X1_level.2.1 2 = .ok (.aload_n 0, 1) := by decide +kernel
theorem dX1_level_3 : decode M_X1_level.2.1 3 = .ok (.getfield 36, 3) := by decide +kernel
theorem dX1_level_6 : decode M_X1_level.2.1 6 = .ok (.iconst 1, 1) := by decide +kernel
theorem dX1_level_7 : decode M_X1_level.2.1 7 = .ok (.isub, 1) := by decide +kernel
theorem dX1_level_8 : decode M_X1_level.2.1 8 = .ok (.invokestatic 79, 3) := by decide +kernel
theorem dX1_level_11 : decode M_X1_level.2.1 11 = .ok (.ifCond .eq 12, 3) := by decide +kernel
theorem dX1_level_14 : decode M_X1_level.2.1 14 = .ok (.aload_n 0, 1) := by decide +kernel
theorem dX1_level_15 : decode M_X1_level.2.1 15 = .ok (.getfield 18, 3) := by decide +kernel
theorem dX1_level_18 : decode M_X1_level.2.1 18 = .ok (.iload_n 1, 1) := by decide +kernel
theorem dX1_level_19 : decode M_X1_level.2.1 19 = .ok (.iaload, 1) := by decide +kernel
theorem dX1_level_20 : decode M_X1_level.2.1 20 = .ok (.goto 5, 3) := by decide +kernel
theorem dX1_level_23 : decode M_X1_level.2.1 23 = .ok (.bipush (-9), 2) := by decide +kernel
theorem dX1_level_25 : decode M_X1_level.2.1 25 = .ok (.ireturn, 1) := by decide +kernel
theorem dX1_under_0 : decode M_X1_under.2.1 0 = .ok (.iload_n 1, 1) := by decide +kernel
theorem dX1_under_1 : decode M_X1_under.2.1 1 = .ok (.iconst 0, 1) := by decide +kernel
theorem dX1_under_2 : decode M_X1_under.2.1 2 = .ok (.aload_n 0, 1) := by decide +kernel
theorem dX1_under_3 : decode M_X1_under.2.1 3 = .ok (.getfield 36, 3) := by decide +kernel
theorem dX1_under_6 : decode M_X1_under.2.1 6 = .ok (.iconst 1, 1) := by decide +kernel
theorem dX1_under_7 : decode M_X1_under.2.1 7 = .ok (.isub, 1) := by decide +kernel
theorem dX1_under_8 : decode M_X1_under.2.1 8 = .ok (.invokestatic 79, 3) := by decide +kernel
theorem dX1_under_11 : decode M_X1_under.2.1 11 = .ok (.ifCond .eq 12, 3) := by decide +kernel
theorem dX1_under_14 : decode M_X1_under.2.1 14 = .ok (.aload_n 0, 1) := by decide +kernel
theorem dX1_under_15 : decode M_X1_under.2.1 15 = .ok (.getfield 21, 3) := by decide +kernel
theorem dX1_under_18 : decode M_X1_under.2.1 18 = .ok (.iload_n 1, 1) := by decide +kernel
theorem dX1_under_19 : decode M_X1_under.2.1 19 = .ok (.iaload, 1) := by decide +kernel
theorem dX1_under_20 : decode M_X1_under.2.1 20 = .ok (.goto 4, 3) := by decide +kernel
theorem dX1_under_23 : decode M_X1_under.2.1 23 = .ok (.iconst 0, 1) := by decide +kernel
theorem dX1_under_24 : decode M_X1_under.2.1 24 = .ok (.ireturn, 1) := by decide +kernel
theorem dX1_over_0 : decode M_X1_over.2.1 0 = .ok (.iload_n 1, 1) := by decide +kernel
theorem dX1_over_1 : decode M_X1_over.2.1 1 = .ok (.iconst 0, 1) := by decide +kernel
theorem dX1_over_2 : decode M_X1_over.2.1 2 = .ok (.aload_n 0, 1) := by decide +kernel
theorem dX1_over_3 : decode M_X1_over.2.1 3 = .ok (.getfield 36, 3) := by decide +kernel
theorem dX1_over_6 : decode M_X1_over.2.1 6 = .ok (.iconst 1, 1) := by decide +kernel
theorem dX1_over_7 : decode M_X1_over.2.1 7 = .ok (.isub, 1) := by decide +kernel
theorem dX1_over_8 : decode M_X1_over.2.1 8 = .ok (.invokestatic 79, 3) := by decide +kernel
theorem dX1_over_11 : decode M_X1_over.2.1 11 = .ok (.ifCond .eq 12, 3) := by decide +kernel
theorem dX1_over_14 : decode M_X1_over.2.1 14 = .ok (.aload_n 0, 1) := by decide +kernel
theorem dX1_over_15 : decode M_X1_over.2.1 15 = .ok (.getfield 24, 3) := by decide +kernel
theorem dX1_over_18 : decode M_X1_over.2.1 18 = .ok (.iload_n 1, 1) := by decide +kernel
theorem dX1_over_19 : decode M_X1_over.2.1 19 = .ok (.iaload, 1) := by decide +kernel
theorem dX1_over_20 : decode M_X1_over.2.1 20 = .ok (.goto 4, 3) := by decide +kernel
theorem dX1_over_23 : decode M_X1_over.2.1 23 = .ok (.iconst 0, 1) := by decide +kernel
theorem dX1_over_24 : decode M_X1_over.2.1 24 = .ok (.ireturn, 1) := by decide +kernel
theorem dX1_greatestLevel_0 : decode M_X1_greatestLevel.2.1 0 = .ok (.bipush (-9), 2) := by decide +kernel
theorem dX1_greatestLevel_2 : decode M_X1_greatestLevel.2.1 2 = .ok (.istore_n 1, 1) := by decide +kernel
theorem dX1_greatestLevel_3 : decode M_X1_greatestLevel.2.1 3 = .ok (.iconst 0, 1) := by decide +kernel
theorem dX1_greatestLevel_4 : decode M_X1_greatestLevel.2.1 4 = .ok (.istore_n 2, 1) := by decide +kernel
theorem dX1_greatestLevel_5 : decode M_X1_greatestLevel.2.1 5 = .ok (.iload_n 2, 1) := by decide +kernel
theorem dX1_greatestLevel_6 : decode M_X1_greatestLevel.2.1 6 = .ok (.aload_n 0, 1) := by decide +kernel
theorem dX1_greatestLevel_7 : decode M_X1_greatestLevel.2.1 7 = .ok (.getfield 36, 3) := by decide +kernel
theorem dX1_greatestLevel_10 : decode M_X1_greatestLevel.2.1 10 = .ok (.if_icmp .ge 20, 3) := by decide +kernel
theorem dX1_greatestLevel_13 : decode M_X1_greatestLevel.2.1 13 = .ok (.iload_n 1, 1) := by decide +kernel
theorem dX1_greatestLevel_14 : decode M_X1_greatestLevel.2.1 14 = .ok (.aload_n 0, 1) := by decide +kernel
theorem dX1_greatestLevel_15 : decode M_X1_greatestLevel.2.1 15 = .ok (.getfield 18, 3) := by decide +kernel
theorem dX1_greatestLevel_18 : decode M_X1_greatestLevel.2.1 18 = .ok (.iload_n 2, 1) := by decide +kernel
theorem dX1_greatestLevel_19 : decode M_X1_greatestLevel.2.1 19 = .ok (.iaload, 1) := by decide +kernel
theorem dX1_greatestLevel_20 : decode M_X1_greatestLevel.2.1 20 = .ok (.invokestatic 72, 3) := by decide +kernel
theorem dX1_greatestLevel_23 : decode M_X1_greatestLevel.2.1 23 = .ok (.istore_n 1, 1) := by decide +kernel
theorem dX1_greatestLevel_24 : decode M_X1_greatestLevel.2.1 24 = .ok (.iinc 2 1, 3) := by decide +kernel
theorem dX1_greatestLevel_27 : decode M_X1_greatestLevel.2.1 27 = .ok (.goto (-22), 3) := by decide +kernel
theorem dX1_greatestLevel_30 : decode M_X1_greatestLevel.2.1 30 = .ok (.iload_n 1, 1) := by decide +kernel
theorem dX1_greatestLevel_31 : decode M_X1_greatestLevel.2.1 31 = .ok (.ireturn, 1) := by decide +kernel
theorem dX1_upper_0 : decode M_X1_upper.2.1 0 = .ok (.iload_n 1, 1) := by decide +kernel
theorem dX1_upper_1 : decode M_X1_upper.2.1 1 = .ok (.iconst 0, 1) := by decide +kernel
theorem dX1_upper_2 : decode M_X1_upper.2.1 2 = .ok (.aload_n 0, 1) := by decide +kernel
theorem dX1_upper_3 : decode M_X1_upper.2.1 3 = .ok (.getfield 40, 3) := by decide +kernel
theorem dX1_upper_6 : decode M_X1_upper.2.1 6 = .ok (.iconst 1, 1) := by decide +kernel
theorem dX1_upper_7 : decode M_X1_upper.2.1 7 = .ok (.isub, 1) := by decide +kernel
theorem dX1_upper_8 : decode M_X1_upper.2.1 8 = .ok (.invokestatic 79, 3) := by decide +kernel
theorem dX1_upper_11 : decode M_X1_upper.2.1 11 = .ok (.ifCond .eq 12, 3) := by decide +kernel
theorem dX1_upper_14 : decode M_X1_upper.2.1 14 = .ok (.aload_n 0, 1) := by decide +kernel
theorem dX1_upper_15 : decode M_X1_upper.2.1 15 = .ok (.getfield 27, 3) := by decide +kernel
theorem dX1_upper_18 : decode M_X1_upper.2.1 18 = .ok (.iload_n 1, 1) := by decide +kernel
theorem dX1_upper_19 : decode M_X1_upper.2.1 19 = .ok (.iaload, 1) := by decide +kernel
theorem dX1_upper_20 : decode M_X1_upper.2.1 20 = .ok (.goto 5, 3) := by decide +kernel
theorem dX1_upper_23 : decode M_X1_upper.2.1 23 = .ok (.bipush (-9), 2) := by decide +kernel
theorem dX1_upper_25 : decode M_X1_upper.2.1 25 = .ok (.ireturn, 1) := by decide +kernel
theorem dX1_lower_0 : decode M_X1_lower.2.1 0 = .ok (.iload_n 1, 1) := by decide +kernel
theorem dX1_lower_1 : decode M_X1_lower.2.1 1 = .ok (.iconst 0, 1) := by decide +kernel
theorem dX1_lower_2 : decode M_X1_lower.2.1 2 = .ok (.aload_n 0, 1) := by decide +kernel
theorem dX1_lower_3 : decode M_X1_lower.2.1 3 = .ok (.getfield 40, 3) := by decide +kernel
theorem dX1_lower_6 : decode M_X1_lower.2.1 6 = .ok (.iconst 1, 1) := by decide +kernel
theorem dX1_lower_7 : decode M_X1_lower.2.1 7 = .ok (.isub, 1) := by decide +kernel
theorem dX1_lower_8 : decode M_X1_lower.2.1 8 = .ok (.invokestatic 79, 3) := by decide +kernel
theorem dX1_lower_11 : decode M_X1_lower.2.1 11 = .ok (.ifCond .eq 12, 3) := by decide +kernel
theorem dX1_lower_14 : decode M_X1_lower.2.1 14 = .ok (.aload_n 0, 1) := by decide +kernel
theorem dX1_lower_15 : decode M_X1_lower.2.1 15 = .ok (.getfield 30, 3) := by decide +kernel
theorem dX1_lower_18 : decode M_X1_lower.2.1 18 = .ok (.iload_n 1, 1) := by decide +kernel
theorem dX1_lower_19 : decode M_X1_lower.2.1 19 = .ok (.iaload, 1) := by decide +kernel
theorem dX1_lower_20 : decode M_X1_lower.2.1 20 = .ok (.goto 5, 3) := by decide +kernel
theorem dX1_lower_23 : decode M_X1_lower.2.1 23 = .ok (.bipush (-9), 2) := by decide +kernel
theorem dX1_lower_25 : decode M_X1_lower.2.1 25 = .ok (.ireturn, 1) := by decide +kernel
theorem dX1_x_0 : decode M_X1_x.2.1 0 = .ok (.iload_n 1, 1) := by decide +kernel
theorem dX1_x_1 : decode M_X1_x.2.1 1 = .ok (.iconst 0, 1) := by decide +kernel
theorem dX1_x_2 : decode M_X1_x.2.1 2 = .ok (.aload_n 0, 1) := by decide +kernel
theorem dX1_x_3 : decode M_X1_x.2.1 3 = .ok (.getfield 40, 3) := by decide +kernel
theorem dX1_x_6 : decode M_X1_x.2.1 6 = .ok (.iconst 1, 1) := by decide +kernel
theorem dX1_x_7 : decode M_X1_x.2.1 7 = .ok (.isub, 1) := by decide +kernel
theorem dX1_x_8 : decode M_X1_x.2.1 8 = .ok (.invokestatic 79, 3) := by decide +kernel
theorem dX1_x_11 : decode M_X1_x.2.1 11 = .ok (.ifCond .eq 12, 3) := by decide +kernel
theorem dX1_x_14 : decode M_X1_x.2.1 14 = .ok (.aload_n 0, 1) := by decide +kernel
theorem dX1_x_15 : decode M_X1_x.2.1 15 = .ok (.getfield 33, 3) := by decide +kernel
theorem dX1_x_18 : decode M_X1_x.2.1 18 = .ok (.iload_n 1, 1) := by decide +kernel
theorem dX1_x_19 : decode M_X1_x.2.1 19 = .ok (.iaload, 1) := by decide +kernel
theorem dX1_x_20 : decode M_X1_x.2.1 20 = .ok (.goto 4, 3) := by decide +kernel
theorem dX1_x_23 : decode M_X1_x.2.1 23 = .ok (.iconst 0, 1) := by decide +kernel
theorem dX1_x_24 : decode M_X1_x.2.1 24 = .ok (.ireturn, 1) := by decide +kernel
theorem dX2_init_0 : decode M_X2_init.2.1 0 = .ok (.aload_n 0, 1) := by decide +kernel
theorem dX2_init_1 : decode M_X2_init.2.1 1 = .ok (.invokespecial 5, 3) := by decide +kernel
theorem dX2_init_4 : decode M_X2_init.2.1 4 = .ok (.aload_n 0, 1) := by decide +kernel
theorem dX2_init_5 : decode M_X2_init.2.1 5 = .ok (.bipush 21, 2) := by decide +kernel
theorem dX2_init_7 : decode M_X2_init.2.1 7 = .ok (.newarray .int, 2) := by decide +kernel
theorem dX2_init_9 : decode M_X2_init.2.1 9 = .ok (.putfield 11, 3) := by decide +kernel
theorem dX2_init_12 : decode M_X2_init.2.1 12 = .ok (.return_, 1) := by decide +kernel
theorem dX2_size_0 : decode M_X2_size.2.1 0 = .ok (.aload_n 0, 1) := by decide +kernel
theorem dX2_size_1 : decode M_X2_size.2.1 1 = .ok (.getfield 11, 3) := by decide +kernel
theorem dX2_size_4 : decode M_X2_size.2.1 4 = .ok (.bipush 20, 2) := by decide +kernel
theorem dX2_size_6 : decode M_X2_size.2.1 6 = .ok (.iaload, 1) := by decide +kernel
theorem dX2_size_7 : decode M_X2_size.2.1 7 = .ok (.ireturn, 1) := by decide +kernel
theorem dX2_has_0 : decode M_X2_has.2.1 0 = .ok (.iload_n 1, 1) := by decide +kernel
theorem dX2_has_1 : decode M_X2_has.2.1 1 = .ok (.ifCond .lt 23, 3) := by decide +kernel
theorem dX2_has_4 : decode M_X2_has.2.1 4 = .ok (.iload_n 1, 1) := by decide +kernel
theorem dX2_has_5 : decode M_X2_has.2.1 5 = .ok (.aload_n 0, 1) := by decide +kernel
theorem dX2_has_6 : decode M_X2_has.2.1 6 = .ok (.getfield 11, 3) := by decide +kernel
theorem dX2_has_9 : decode M_X2_has.2.1 9 = .ok (.bipush 20, 2) := by decide +kernel
theorem dX2_has_11 : decode M_X2_has.2.1 11 = .ok (.iaload, 1) := by decide +kernel
theorem dX2_has_12 : decode M_X2_has.2.1 12 = .ok (.if_icmp .ge 12, 3) := by decide +kernel
theorem dX2_has_15 : decode M_X2_has.2.1 15 = .ok (.iload_n 1, 1) := by decide +kernel
theorem dX2_has_16 : decode M_X2_has.2.1 16 = .ok (.iconst 4, 1) := by decide +kernel
theorem dX2_has_17 : decode M_X2_has.2.1 17 = .ok (.if_icmp .ge 7, 3) := by decide +kernel
theorem dX2_has_20 : decode M_X2_has.2.1 20 = .ok (.iconst 1, 1) := by decide +kernel
theorem dX2_has_21 : decode M_X2_has.2.1 21 = .ok (.goto 4, 3) := by decide +kernel
theorem dX2_has_24 : decode M_X2_has.2.1 24 = .ok (.iconst 0, 1) := by decide +kernel
theorem dX2_has_25 : decode M_X2_has.2.1 25 = .ok (.ireturn, 1) := by decide +kernel
theorem dX2_get_0 : decode M_X2_get.2.1 0 = .ok (.aload_n 0, 1) := by decide +kernel
theorem dX2_get_1 : decode M_X2_get.2.1 1 = .ok (.iload_n 1, 1) := by decide +kernel
theorem dX2_get_2 : decode M_X2_get.2.1 2 = .ok (.invokevirtual 15, 3) := by decide +kernel
theorem dX2_get_5 : decode M_X2_get.2.1 5 = .ok (.ifCond .eq 12, 3) := by decide +kernel
theorem dX2_get_8 : decode M_X2_get.2.1 8 = .ok (.iload_n 2, 1) := by decide +kernel
theorem dX2_get_9 : decode M_X2_get.2.1 9 = .ok (.iconst 0, 1) := by decide +kernel
theorem dX2_get_10 : decode M_X2_get.2.1 10 = .ok (.iconst 4, 1) := by decide +kernel
theorem dX2_get_11 : decode M_X2_get.2.1 11 = .ok (.invokestatic 19, 3) := by decide +kernel
theorem dX2_get_14 : decode M_X2_get.2.1 14 = .ok (.ifCond .ne 5, 3) := by decide +kernel
theorem dX2_get_17 : decode M_X2_get.2.1 17 = .ok (.iconst 0, 1) := by decide +kernel
theorem dX2_get_18 : decode M_X2_get.2.1 18 = .ok (.ireturn, 1) := by decide +kernel
theorem dX2_get_19 : decode M_X2_get.2.1 19 = .ok (.aload_n 0, 1) := by decide +kernel
theorem dX2_get_20 : decode M_X2_get.2.1 20 = .ok (.getfield 11, 3) := by decide +kernel
theorem dX2_get_23 : decode M_X2_get.2.1 23 = .ok (.iload_n 1, 1) := by decide +kernel
theorem dX2_get_24 : decode M_X2_get.2.1 24 = .ok (.iconst 5, 1) := by decide +kernel
theorem dX2_get_25 : decode M_X2_get.2.1 25 = .ok (.imul, 1) := by decide +kernel
theorem dX2_get_26 : decode M_X2_get.2.1 26 = .ok (.iload_n 2, 1) := by decide +kernel
theorem dX2_get_27 : decode M_X2_get.2.1 27 = .ok (.iadd, 1) := by decide +kernel
theorem dX2_get_28 : decode M_X2_get.2.1 28 = .ok (.iaload, 1) := by decide +kernel
theorem dX2_get_29 : decode M_X2_get.2.1 29 = .ok (.ireturn, 1) := by decide +kernel
theorem dX2_set_0 : decode M_X2_set.2.1 0 = .ok (.aload_n 0, 1) := by decide +kernel
theorem dX2_set_1 : decode M_X2_set.2.1 1 = .ok (.iload_n 1, 1) := by decide +kernel
theorem dX2_set_2 : decode M_X2_set.2.1 2 = .ok (.invokevirtual 15, 3) := by decide +kernel
theorem dX2_set_5 : decode M_X2_set.2.1 5 = .ok (.ifCond .eq 23, 3) := by decide +kernel
theorem dX2_set_8 : decode M_X2_set.2.1 8 = .ok (.iload_n 2, 1) := by decide +kernel
theorem dX2_set_9 : decode M_X2_set.2.1 9 = .ok (.iconst 0, 1) := by decide +kernel
theorem dX2_set_10 : decode M_X2_set.2.1 10 = .ok (.iconst 4, 1) := by decide +kernel
theorem dX2_set_11 : decode M_X2_set.2.1 11 = .ok (.invokestatic 19, 3) := by decide +kernel
theorem dX2_set_14 : decode M_X2_set.2.1 14 = .ok (.ifCond .eq 14, 3) := by decide +kernel
theorem dX2_set_17 : decode M_X2_set.2.1 17 = .ok (.aload_n 0, 1) := by decide +kernel
theorem dX2_set_18 : decode M_X2_set.2.1 18 = .ok (.getfield 11, 3) := by decide +kernel
theorem dX2_set_21 : decode M_X2_set.2.1 21 = .ok (.iload_n 1, 1) := by decide +kernel
theorem dX2_set_22 : decode M_X2_set.2.1 22 = .ok (.iconst 5, 1) := by decide +kernel
theorem dX2_set_23 : decode M_X2_set.2.1 23 = .ok (.imul, 1) := by decide +kernel
theorem dX2_set_24 : decode M_X2_set.2.1 24 = .ok (.iload_n 2, 1) := by decide +kernel
theorem dX2_set_25 : decode M_X2_set.2.1 25 = .ok (.iadd, 1) := by decide +kernel
theorem dX2_set_26 : decode M_X2_set.2.1 26 = .ok (.iload_n 3, 1) := by decide +kernel
theorem dX2_set_27 : decode M_X2_set.2.1 27 = .ok (.iastore, 1) := by decide +kernel
theorem dX2_set_28 : decode M_X2_set.2.1 28 = .ok (.return_, 1) := by decide +kernel
theorem dX2_empty_0 : decode M_X2_empty.2.1 0 = .ok (.aload_n 0, 1) := by decide +kernel
theorem dX2_empty_1 : decode M_X2_empty.2.1 1 = .ok (.getfield 11, 3) := by decide +kernel
theorem dX2_empty_4 : decode M_X2_empty.2.1 4 = .ok (.bipush 20, 2) := by decide +kernel
theorem dX2_empty_6 : decode M_X2_empty.2.1 6 = .ok (.iconst 0, 1) := by decide +kernel
theorem dX2_empty_7 : decode M_X2_empty.2.1 7 = .ok (.iastore, 1) := by decide +kernel
theorem dX2_empty_8 : decode M_X2_empty.2.1 8 = .ok (.return_, 1) := by decide +kernel
theorem dX2_add_0 : decode M_X2_add.2.1 0 = .ok (.aload_n 0, 1) := by decide +kernel
theorem dX2_add_1 : decode M_X2_add.2.1 1 = .ok (.invokevirtual 23, 3) := by decide +kernel
theorem dX2_add_4 : decode M_X2_add.2.1 4 = .ok (.istore 4, 2) := by decide +kernel
theorem dX2_add_6 : decode M_X2_add.2.1 6 = .ok (.iload 4, 2) := by decide +kernel
theorem dX2_add_8 : decode M_X2_add.2.1 8 = .ok (.iconst 4, 1) := by decide +kernel
theorem dX2_add_9 : decode M_X2_add.2.1 9 = .ok (.if_icmp .lt 4, 3) := by decide +kernel
theorem dX2_add_12 : decode M_X2_add.2.1 12 = .ok (.return_, 1) := by decide +kernel
theorem dX2_add_13 : decode M_X2_add.2.1 13 = .ok (.aload_n 0, 1) := by decide +kernel
theorem dX2_add_14 : decode M_X2_add.2.1 14 = .ok (.getfield 11, 3) := by decide +kernel
theorem dX2_add_17 : decode M_X2_add.2.1 17 = .ok (.bipush 20, 2) := by decide +kernel
theorem dX2_add_19 : decode M_X2_add.2.1 19 = .ok (.iload 4, 2) := by decide +kernel
theorem dX2_add_21 : decode M_X2_add.2.1 21 = .ok (.iconst 1, 1) := by decide +kernel
theorem dX2_add_22 : decode M_X2_add.2.1 22 = .ok (.iadd, 1) := by decide +kernel
theorem dX2_add_23 : decode M_X2_add.2.1 23 = .ok (.iastore, 1) := by decide +kernel
theorem dX2_add_24 : decode M_X2_add.2.1 24 = .ok (.aload_n 0, 1) := by decide +kernel
theorem dX2_add_25 : decode M_X2_add.2.1 25 = .ok (.iload 4, 2) := by decide +kernel
theorem dX2_add_27 : decode M_X2_add.2.1 27 = .ok (.iconst 0, 1) := by decide +kernel
theorem dX2_add_28 : decode M_X2_add.2.1 28 = .ok (.iload_n 1, 1) := by decide +kernel
theorem dX2_add_29 : decode M_X2_add.2.1 29 = .ok (.invokevirtual 27, 3) := by decide +kernel
theorem dX2_add_32 : decode M_X2_add.2.1 32 = .ok (.aload_n 0, 1) := by decide +kernel
theorem dX2_add_33 : decode M_X2_add.2.1 33 = .ok (.iload 4, 2) := by decide +kernel
theorem dX2_add_35 : decode M_X2_add.2.1 35 = .ok (.iconst 1, 1) := by decide +kernel
theorem dX2_add_36 : decode M_X2_add.2.1 36 = .ok (.iload_n 2, 1) := by decide +kernel
theorem dX2_add_37 : decode M_X2_add.2.1 37 = .ok (.invokevirtual 27, 3) := by decide +kernel
theorem dX2_add_40 : decode M_X2_add.2.1 40 = .ok (.aload_n 0, 1) := by decide +kernel
theorem dX2_add_41 : decode M_X2_add.2.1 41 = .ok (.iload 4, 2) := by decide +kernel
theorem dX2_add_43 : decode M_X2_add.2.1 43 = .ok (.iconst 2, 1) := by decide +kernel
theorem dX2_add_44 : decode M_X2_add.2.1 44 = .ok (.iload_n 3, 1) := by decide +kernel
theorem dX2_add_45 : decode M_X2_add.2.1 45 = .ok (.invokevirtual 27, 3) := by decide +kernel
theorem dX2_add_48 : decode M_X2_add.2.1 48 = .ok (.aload_n 0, 1) := by decide +kernel
theorem dX2_add_49 : decode M_X2_add.2.1 49 = .ok (.iload 4, 2) := by decide +kernel
theorem dX2_add_51 : decode M_X2_add.2.1 51 = .ok (.iconst 3, 1) := by decide +kernel
theorem dX2_add_52 : decode M_X2_add.2.1 52 = .ok (.iconst 0, 1) := by decide +kernel
theorem dX2_add_53 : decode M_X2_add.2.1 53 = .ok (.invokevirtual 27, 3) := by decide +kernel
theorem dX2_add_56 : decode M_X2_add.2.1 56 = .ok (.aload_n 0, 1) := by decide +kernel
theorem dX2_add_57 : decode M_X2_add.2.1 57 = .ok (.iload 4, 2) := by decide +kernel
theorem dX2_add_59 : decode M_X2_add.2.1 59 = .ok (.iconst 4, 1) := by decide +kernel
theorem dX2_add_60 : decode M_X2_add.2.1 60 = .ok (.iconst 0, 1) := by decide +kernel
theorem dX2_add_61 : decode M_X2_add.2.1 61 = .ok (.invokevirtual 27, 3) := by decide +kernel
theorem dX2_add_64 : decode M_X2_add.2.1 64 = .ok (.return_, 1) := by decide +kernel
theorem dX2_takeOut_0 : decode M_X2_takeOut.2.1 0 = .ok (.aload_n 0, 1) := by decide +kernel
theorem dX2_takeOut_1 : decode M_X2_takeOut.2.1 1 = .ok (.iload_n 1, 1) := by decide +kernel
theorem dX2_takeOut_2 : decode M_X2_takeOut.2.1 2 = .ok (.invokevirtual 15, 3) := by decide +kernel
theorem dX2_takeOut_5 : decode M_X2_takeOut.2.1 5 = .ok (.ifCond .ne 4, 3) := by decide +kernel
theorem dX2_takeOut_8 : decode M_X2_takeOut.2.1 8 = .ok (.return_, 1) := by decide +kernel
theorem dX2_takeOut_9 : decode M_X2_takeOut.2.1 9 = .ok (.aload_n 0, 1) := by decide +kernel
theorem dX2_takeOut_10 : decode M_X2_takeOut.2.1 10 = .ok (.invokevirtual 23, 3) := by decide +kernel
theorem dX2_takeOut_13 : decode M_X2_takeOut.2.1 13 = .ok (.iconst 1, 1) := by decide +kernel
theorem dX2_takeOut_14 : decode M_X2_takeOut.2.1 14 = .ok (.isub, 1) := by decide +kernel
theorem dX2_takeOut_15 : decode M_X2_takeOut.2.1 15 = .ok (.iload_n 1, 1) := by decide +kernel
theorem dX2_takeOut_16 : decode M_X2_takeOut.2.1 16 = .ok (.isub, 1) := by decide +kernel
theorem dX2_takeOut_17 : decode M_X2_takeOut.2.1 17 = .ok (.istore_n 2, 1) := by decide +kernel
theorem dX2_takeOut_18 : decode M_X2_takeOut.2.1 18 = .ok (.aload_n 0, 1) := by decide +kernel
theorem dX2_takeOut_19 : decode M_X2_takeOut.2.1 19 = .ok (.getfield 11, 3) := by decide +kernel
theorem dX2_takeOut_22 : decode M_X2_takeOut.2.1 22 = .ok (.iload_n 1, 1) := by decide +kernel
theorem dX2_takeOut_23 : decode M_X2_takeOut.2.1 23 = .ok (.iconst 1, 1) := by decide +kernel
theorem dX2_takeOut_24 : decode M_X2_takeOut.2.1 24 = .ok (.iadd, 1) := by decide +kernel
theorem dX2_takeOut_25 : decode M_X2_takeOut.2.1 25 = .ok (.iconst 5, 1) := by decide +kernel
theorem dX2_takeOut_26 : decode M_X2_takeOut.2.1 26 = .ok (.imul, 1) := by decide +kernel
theorem dX2_takeOut_27 : decode M_X2_takeOut.2.1 27 = .ok (.aload_n 0, 1) := by decide +kernel
theorem dX2_takeOut_28 : decode M_X2_takeOut.2.1 28 = .ok (.getfield 11, 3) := by decide +kernel
theorem dX2_takeOut_31 : decode M_X2_takeOut.2.1 31 = .ok (.iload_n 1, 1) := by decide +kernel
theorem dX2_takeOut_32 : decode M_X2_takeOut.2.1 32 = .ok (.iconst 5, 1) := by decide +kernel
theorem dX2_takeOut_33 : decode M_X2_takeOut.2.1 33 = .ok (.imul, 1) := by decide +kernel
theorem dX2_takeOut_34 : decode M_X2_takeOut.2.1 34 = .ok (.iload_n 2, 1) := by decide +kernel
theorem dX2_takeOut_35 : decode M_X2_takeOut.2.1 35 = .ok (.iconst 5, 1) := by decide +kernel
theorem dX2_takeOut_36 : decode M_X2_takeOut.2.1 36 = .ok (.imul, 1) := by decide +kernel
theorem dX2_takeOut_37 : decode M_X2_takeOut.2.1 37 = .ok (.invokestatic 31, 3) := by decide +kernel
theorem dX2_takeOut_40 : decode M_X2_takeOut.2.1 40 = .ok (.aload_n 0, 1) := by decide +kernel
theorem dX2_takeOut_41 : decode M_X2_takeOut.2.1 41 = .ok (.getfield 11, 3) := by decide +kernel
theorem dX2_takeOut_44 : decode M_X2_takeOut.2.1 44 = .ok (.bipush 20, 2) := by decide +kernel
theorem dX2_takeOut_46 : decode M_X2_takeOut.2.1 46 = .ok (.dup2, 1) := by decide +kernel
theorem dX2_takeOut_47 : decode M_X2_takeOut.2.1 47 = .ok (.iaload, 1) := by decide +kernel
theorem dX2_takeOut_48 : decode M_X2_takeOut.2.1 48 = .ok (.iconst 1, 1) := by decide +kernel
theorem dX2_takeOut_49 : decode M_X2_takeOut.2.1 49 = .ok (.isub, 1) := by decide +kernel
theorem dX2_takeOut_50 : decode M_X2_takeOut.2.1 50 = .ok (.iastore, 1) := by decide +kernel
theorem dX2_takeOut_51 : decode M_X2_takeOut.2.1 51 = .ok (.return_, 1) := by decide +kernel
theorem dX2_heaviness_0 : decode M_X2_heaviness.2.1 0 = .ok (.iconst 0, 1) := by decide +kernel
theorem dX2_heaviness_1 : decode M_X2_heaviness.2.1 1 = .ok (.istore_n 1, 1) := by decide +kernel
theorem dX2_heaviness_2 : decode M_X2_heaviness.2.1 2 = .ok (.iconst 0, 1) := by decide +kernel
theorem dX2_heaviness_3 : decode M_X2_heaviness.2.1 3 = .ok (.istore_n 2, 1) := by decide +kernel
theorem dX2_heaviness_4 : decode M_X2_heaviness.2.1 4 = .ok (.iload_n 2, 1) := by decide +kernel
theorem dX2_heaviness_5 : decode M_X2_heaviness.2.1 5 = .ok (.aload_n 0, 1) := by decide +kernel
theorem dX2_heaviness_6 : decode M_X2_heaviness.2.1 6 = .ok (.invokevirtual 23, 3) := by decide +kernel
theorem dX2_heaviness_9 : decode M_X2_heaviness.2.1 9 = .ok (.if_icmp .ge 25, 3) := by decide +kernel
theorem dX2_heaviness_12 : decode M_X2_heaviness.2.1 12 = .ok (.iload_n 1, 1) := by decide +kernel
theorem dX2_heaviness_13 : decode M_X2_heaviness.2.1 13 = .ok (.aload_n 0, 1) := by decide +kernel
theorem dX2_heaviness_14 : decode M_X2_heaviness.2.1 14 = .ok (.iload_n 2, 1) := by decide +kernel
theorem dX2_heaviness_15 : decode M_X2_heaviness.2.1 15 = .ok (.iconst 2, 1) := by decide +kernel
theorem dX2_heaviness_16 : decode M_X2_heaviness.2.1 16 = .ok (.invokevirtual 37, 3) := by decide +kernel
theorem dX2_heaviness_19 : decode M_X2_heaviness.2.1 19 = .ok (.aload_n 0, 1) := by decide +kernel
theorem dX2_heaviness_20 : decode M_X2_heaviness.2.1 20 = .ok (.iload_n 2, 1) := by decide +kernel
theorem dX2_heaviness_21 : decode M_X2_heaviness.2.1 21 = .ok (.iconst 3, 1) := by decide +kernel
theorem dX2_heaviness_22 : decode M_X2_heaviness.2.1 22 = .ok (.invokevirtual 37, 3) := by decide +kernel
theorem dX2_heaviness_25 : decode M_X2_heaviness.2.1 25 = .ok (.iadd, 1) := by decide +kernel
theorem dX2_heaviness_26 : decode M_X2_heaviness.2.1 26 = .ok (.iadd, 1) := by decide +kernel
theorem dX2_heaviness_27 : decode M_X2_heaviness.2.1 27 = .ok (.istore_n 1, 1) := by decide +kernel
theorem dX2_heaviness_28 : decode M_X2_heaviness.2.1 28 = .ok (.iinc 2 1, 3) := by decide +kernel
theorem dX2_heaviness_31 : decode M_X2_heaviness.2.1 31 = .ok (.goto (-27), 3) := by decide +kernel
theorem dX2_heaviness_34 : decode M_X2_heaviness.2.1 34 = .ok (.iload_n 1, 1) := by decide +kernel
theorem dX2_heaviness_35 : decode M_X2_heaviness.2.1 35 = .ok (.ireturn, 1) := by decide +kernel
theorem dX2_copy_0 : decode M_X2_copy.2.1 0 = .ok (.aload_n 1, 1) := by decide +kernel
theorem dX2_copy_1 : decode M_X2_copy.2.1 1 = .ok (.getfield 11, 3) := by decide +kernel
theorem dX2_copy_4 : decode M_X2_copy.2.1 4 = .ok (.iconst 0, 1) := by decide +kernel
theorem dX2_copy_5 : decode M_X2_copy.2.1 5 = .ok (.aload_n 0, 1) := by decide +kernel
theorem dX2_copy_6 : decode M_X2_copy.2.1 6 = .ok (.getfield 11, 3) := by decide +kernel
theorem dX2_copy_9 : decode M_X2_copy.2.1 9 = .ok (.iconst 0, 1) := by decide +kernel
theorem dX2_copy_10 : decode M_X2_copy.2.1 10 = .ok (.bipush 21, 2) := by decide +kernel
theorem dX2_copy_12 : decode M_X2_copy.2.1 12 = .ok (.invokestatic 31, 3) := by decide +kernel
theorem dX2_copy_15 : decode M_X2_copy.2.1 15 = .ok (.return_, 1) := by decide +kernel
theorem dX3_init_0 : decode M_X3_init.2.1 0 = .ok (.aload_n 0, 1) := by decide +kernel
theorem dX3_init_1 : decode M_X3_init.2.1 1 = .ok (.invokespecial 1, 3) := by decide +kernel
theorem dX3_init_4 : decode M_X3_init.2.1 4 = .ok (.aload_n 0, 1) := by decide +kernel
theorem dX3_init_5 : decode M_X3_init.2.1 5 = .ok (.iload_n 1, 1) := by decide +kernel
theorem dX3_init_6 : decode M_X3_init.2.1 6 = .ok (.iconst 1, 1) := by decide +kernel
theorem dX3_init_7 : decode M_X3_init.2.1 7 = .ok (.invokestatic 7, 3) := by decide +kernel
theorem dX3_init_10 : decode M_X3_init.2.1 10 = .ok (.putfield 13, 3) := by decide +kernel
theorem dX3_init_13 : decode M_X3_init.2.1 13 = .ok (.aload_n 0, 1) := by decide +kernel
theorem dX3_init_14 : decode M_X3_init.2.1 14 = .ok (.aload_n 0, 1) := by decide +kernel
theorem dX3_init_15 : decode M_X3_init.2.1 15 = .ok (.getfield 13, 3) := by decide +kernel
theorem dX3_init_18 : decode M_X3_init.2.1 18 = .ok (.bipush 21, 2) := by decide +kernel
theorem dX3_init_20 : decode M_X3_init.2.1 20 = .ok (.imul, 1) := by decide +kernel
theorem dX3_init_21 : decode M_X3_init.2.1 21 = .ok (.newarray .int, 2) := by decide +kernel
theorem dX3_init_23 : decode M_X3_init.2.1 23 = .ok (.putfield 21, 3) := by decide +kernel
theorem dX3_init_26 : decode M_X3_init.2.1 26 = .ok (.return_, 1) := by decide +kernel
theorem dX3_write_0 : decode M_X3_write.2.1 0 = .ok (.iload_n 1, 1) := by decide +kernel
theorem dX3_write_1 : decode M_X3_write.2.1 1 = .ok (.iconst 0, 1) := by decide +kernel
theorem dX3_write_2 : decode M_X3_write.2.1 2 = .ok (.aload_n 0, 1) := by decide +kernel
theorem dX3_write_3 : decode M_X3_write.2.1 3 = .ok (.getfield 13, 3) := by decide +kernel
theorem dX3_write_6 : decode M_X3_write.2.1 6 = .ok (.iconst 1, 1) := by decide +kernel
theorem dX3_write_7 : decode M_X3_write.2.1 7 = .ok (.isub, 1) := by decide +kernel
theorem dX3_write_8 : decode M_X3_write.2.1 8 = .ok (.invokestatic 25, 3) := by decide +kernel
theorem dX3_write_11 : decode M_X3_write.2.1 11 = .ok (.ifCond .eq 21, 3) := by decide +kernel
theorem dX3_write_14 : decode M_X3_write.2.1 14 = .ok (.aload_n 2, 1) := by decide +kernel
theorem dX3_write_15 : decode M_X3_write.2.1 15 = .ok (.getfield 31, 3) := by decide +kernel
theorem dX3_write_18 : decode M_X3_write.2.1 18 = .ok (.iconst 0, 1) := by decide +kernel
theorem dX3_write_19 : decode M_X3_write.2.1 19 = .ok (.aload_n 0, 1) := by decide +kernel
theorem dX3_write_20 : decode M_X3_write.2.1 20 = .ok (.getfield 21, 3) := by decide +kernel
theorem dX3_write_23 : decode M_X3_write.2.1 23 = .ok (.iload_n 1, 1) := by decide +kernel
theorem dX3_write_24 : decode M_X3_write.2.1 24 = .ok (.bipush 21, 2) := by decide +kernel
theorem dX3_write_26 : decode M_X3_write.2.1 26 = .ok (.imul, 1) := by decide +kernel
theorem dX3_write_27 : decode M_X3_write.2.1 27 = .ok (.bipush 21, 2) := by decide +kernel
theorem dX3_write_29 : decode M_X3_write.2.1 29 = .ok (.invokestatic 34, 3) := by decide +kernel
theorem dX3_write_32 : decode M_X3_write.2.1 32 = .ok (.return_, 1) := by decide +kernel
theorem dX3_read_0 : decode M_X3_read.2.1 0 = .ok (.iload_n 1, 1) := by decide +kernel
theorem dX3_read_1 : decode M_X3_read.2.1 1 = .ok (.iconst 0, 1) := by decide +kernel
theorem dX3_read_2 : decode M_X3_read.2.1 2 = .ok (.aload_n 0, 1) := by decide +kernel
theorem dX3_read_3 : decode M_X3_read.2.1 3 = .ok (.getfield 13, 3) := by decide +kernel
theorem dX3_read_6 : decode M_X3_read.2.1 6 = .ok (.iconst 1, 1) := by decide +kernel
theorem dX3_read_7 : decode M_X3_read.2.1 7 = .ok (.isub, 1) := by decide +kernel
theorem dX3_read_8 : decode M_X3_read.2.1 8 = .ok (.invokestatic 25, 3) := by decide +kernel
theorem dX3_read_11 : decode M_X3_read.2.1 11 = .ok (.ifCond .eq 21, 3) := by decide +kernel
theorem dX3_read_14 : decode M_X3_read.2.1 14 = .ok (.aload_n 0, 1) := by decide +kernel
theorem dX3_read_15 : decode M_X3_read.2.1 15 = .ok (.getfield 21, 3) := by decide +kernel
theorem dX3_read_18 : decode M_X3_read.2.1 18 = .ok (.iload_n 1, 1) := by decide +kernel
theorem dX3_read_19 : decode M_X3_read.2.1 19 = .ok (.bipush 21, 2) := by decide +kernel
theorem dX3_read_21 : decode M_X3_read.2.1 21 = .ok (.imul, 1) := by decide +kernel
theorem dX3_read_22 : decode M_X3_read.2.1 22 = .ok (.aload_n 2, 1) := by decide +kernel
theorem dX3_read_23 : decode M_X3_read.2.1 23 = .ok (.getfield 31, 3) := by decide +kernel
theorem dX3_read_26 : decode M_X3_read.2.1 26 = .ok (.iconst 0, 1) := by decide +kernel
theorem dX3_read_27 : decode M_X3_read.2.1 27 = .ok (.bipush 21, 2) := by decide +kernel
theorem dX3_read_29 : decode M_X3_read.2.1 29 = .ok (.invokestatic 34, 3) := by decide +kernel
theorem dX3_read_32 : decode M_X3_read.2.1 32 = .ok (.return_, 1) := by decide +kernel
theorem dX3_forgetFirst_0 : decode M_X3_forgetFirst.2.1 0 = .ok (.aload_n 0, 1) := by decide +kernel
theorem dX3_forgetFirst_1 : decode M_X3_forgetFirst.2.1 1 = .ok (.getfield 21, 3) := by decide +kernel
theorem dX3_forgetFirst_4 : decode M_X3_forgetFirst.2.1 4 = .ok (.bipush 21, 2) := by decide +kernel
theorem dX3_forgetFirst_6 : decode M_X3_forgetFirst.2.1 6 = .ok (.aload_n 0, 1) := by decide +kernel
theorem dX3_forgetFirst_7 : decode M_X3_forgetFirst.2.1 7 = .ok (.getfield 21, 3) := by decide +kernel
theorem dX3_forgetFirst_10 : decode M_X3_forgetFirst.2.1 10 = .ok (.iconst 0, 1) := by decide +kernel
theorem dX3_forgetFirst_11 : decode M_X3_forgetFirst.2.1 11 = .ok (.aload_n 0, 1) := by decide +kernel
theorem dX3_forgetFirst_12 : decode M_X3_forgetFirst.2.1 12 = .ok (.getfield 13, 3) := by decide +kernel
theorem dX3_forgetFirst_15 : decode M_X3_forgetFirst.2.1 15 = .ok (.iconst 1, 1) := by decide +kernel
theorem dX3_forgetFirst_16 : decode M_X3_forgetFirst.2.1 16 = .ok (.isub, 1) := by decide +kernel
theorem dX3_forgetFirst_17 : decode M_X3_forgetFirst.2.1 17 = .ok (.bipush 21, 2) := by decide +kernel
theorem dX3_forgetFirst_19 : decode M_X3_forgetFirst.2.1 19 = .ok (.imul, 1) := by decide +kernel
theorem dX3_forgetFirst_20 : decode M_X3_forgetFirst.2.1 20 = .ok (.invokestatic 34, 3) := by decide +kernel
theorem dX3_forgetFirst_23 : decode M_X3_forgetFirst.2.1 23 = .ok (.return_, 1) := by decide +kernel
theorem dX4_init_0 : decode M_X4_init.2.1 0 = .ok (.aload_n 0, 1) := by decide +kernel
theorem dX4_init_1 : decode M_X4_init.2.1 1 = .ok (.invokespecial 3, 3) := by decide +kernel
theorem dX4_init_4 : decode M_X4_init.2.1 4 = .ok (.aload_n 0, 1) := by decide +kernel
theorem dX4_init_5 : decode M_X4_init.2.1 5 = .ok (.bipush 120, 2) := by decide +kernel
theorem dX4_init_7 : decode M_X4_init.2.1 7 = .ok (.newarray .short, 2) := by decide +kernel
theorem dX4_init_9 : decode M_X4_init.2.1 9 = .ok (.putfield 9, 3) := by decide +kernel
theorem dX4_init_12 : decode M_X4_init.2.1 12 = .ok (.aload_n 0, 1) := by decide +kernel
theorem dX4_init_13 : decode M_X4_init.2.1 13 = .ok (.iconst 0, 1) := by decide +kernel
theorem dX4_init_14 : decode M_X4_init.2.1 14 = .ok (.putfield 15, 3) := by decide +kernel
theorem dX4_init_17 : decode M_X4_init.2.1 17 = .ok (.aload_n 0, 1) := by decide +kernel
theorem dX4_init_18 : decode M_X4_init.2.1 18 = .ok (.iconst 0, 1) := by decide +kernel
theorem dX4_init_19 : decode M_X4_init.2.1 19 = .ok (.putfield 19, 3) := by decide +kernel
theorem dX4_init_22 : decode M_X4_init.2.1 22 = .ok (.return_, 1) := by decide +kernel
theorem dX4_length_0 : decode M_X4_length.2.1 0 = .ok (.aload_n 0, 1) := by decide +kernel
theorem dX4_length_1 : decode M_X4_length.2.1 1 = .ok (.getfield 15, 3) := by decide +kernel
theorem dX4_length_4 : decode M_X4_length.2.1 4 = .ok (.ireturn, 1) := by decide +kernel
theorem dX4_place_0 : decode M_X4_place.2.1 0 = .ok (.aload_n 0, 1) := by decide +kernel
theorem dX4_place_1 : decode M_X4_place.2.1 1 = .ok (.getfield 19, 3) := by decide +kernel
theorem dX4_place_4 : decode M_X4_place.2.1 4 = .ok (.ireturn, 1) := by decide +kernel
theorem dX4_append_0 : decode M_X4_append.2.1 0 = .ok (.aload_n 0, 1) := by decide +kernel
theorem dX4_append_1 : decode M_X4_append.2.1 1 = .ok (.getfield 15, 3) := by decide +kernel
theorem dX4_append_4 : decode M_X4_append.2.1 4 = .ok (.bipush 120, 2) := by decide +kernel
theorem dX4_append_6 : decode M_X4_append.2.1 6 = .ok (.if_icmp .lt 5, 3) := by decide +kernel
theorem dX4_append_9 : decode M_X4_append.2.1 9 = .ok (.iconst 0, 1) := by decide +kernel
theorem dX4_append_10 : decode M_X4_append.2.1 10 = .ok (.ireturn, 1) := by decide +kernel
theorem dX4_append_11 : decode M_X4_append.2.1 11 = .ok (.aload_n 0, 1) := by decide +kernel
theorem dX4_append_12 : decode M_X4_append.2.1 12 = .ok (.getfield 9, 3) := by decide +kernel
theorem dX4_append_15 : decode M_X4_append.2.1 15 = .ok (.aload_n 0, 1) := by decide +kernel
theorem dX4_append_16 : decode M_X4_append.2.1 16 = .ok (.getfield 15, 3) := by decide +kernel
theorem dX4_append_19 : decode M_X4_append.2.1 19 = .ok (.iload_n 1, 1) := by decide +kernel
theorem dX4_append_20 : decode M_X4_append.2.1 20 = .ok (.i2s, 1) := by decide +kernel
theorem dX4_append_21 : decode M_X4_append.2.1 21 = .ok (.sastore, 1) := by decide +kernel
theorem dX4_append_22 : decode M_X4_append.2.1 22 = .ok (.aload_n 0, 1) := by decide +kernel
theorem dX4_append_23 : decode M_X4_append.2.1 23 = .ok (.dup, 1) := by decide +kernel
theorem dX4_append_24 : decode M_X4_append.2.1 24 = .ok (.getfield 15, 3) := by decide +kernel
theorem dX4_append_27 : decode M_X4_append.2.1 27 = .ok (.iconst 1, 1) := by decide +kernel
theorem dX4_append_28 : decode M_X4_append.2.1 28 = .ok (.iadd, 1) := by decide +kernel
theorem dX4_append_29 : decode M_X4_append.2.1 29 = .ok (.putfield 15, 3) := by decide +kernel
theorem dX4_append_32 : decode M_X4_append.2.1 32 = .ok (.iconst 1, 1) := by decide +kernel
theorem dX4_append_33 : decode M_X4_append.2.1 33 = .ok (.ireturn, 1) := by decide +kernel
theorem dX4_wipe_0 : decode M_X4_wipe.2.1 0 = .ok (.aload_n 0, 1) := by decide +kernel
theorem dX4_wipe_1 : decode M_X4_wipe.2.1 1 = .ok (.iconst 0, 1) := by decide +kernel
theorem dX4_wipe_2 : decode M_X4_wipe.2.1 2 = .ok (.putfield 15, 3) := by decide +kernel
theorem dX4_wipe_5 : decode M_X4_wipe.2.1 5 = .ok (.return_, 1) := by decide +kernel
theorem dX4_readInto_0 : decode M_X4_readInto.2.1 0 = .ok (.aload_n 1, 1) := by decide +kernel
theorem dX4_readInto_1 : decode M_X4_readInto.2.1 1 = .ok (.invokevirtual 22, 3) := by decide +kernel
theorem dX4_readInto_4 : decode M_X4_readInto.2.1 4 = .ok (.aload_n 0, 1) := by decide +kernel
theorem dX4_readInto_5 : decode M_X4_readInto.2.1 5 = .ok (.iconst 0, 1) := by decide +kernel
theorem dX4_readInto_6 : decode M_X4_readInto.2.1 6 = .ok (.putfield 19, 3) := by decide +kernel
theorem dX4_readInto_9 : decode M_X4_readInto.2.1 9 = .ok (.iconst 0, 1) := by decide +kernel
theorem dX4_readInto_10 : decode M_X4_readInto.2.1 10 = .ok (.istore_n 2, 1) := by decide +kernel
theorem dX4_readInto_11 : decode M_X4_readInto.2.1 11 = .ok (.iload_n 2, 1) := by decide +kernel
theorem dX4_readInto_12 : decode M_X4_readInto.2.1 12 = .ok (.bipush 120, 2) := by decide +kernel
theorem dX4_readInto_14 : decode M_X4_readInto.2.1 14 = .ok (.if_icmp .gt 36, 3) := by decide +kernel
theorem dX4_readInto_17 : decode M_X4_readInto.2.1 17 = .ok (.aload_n 0, 1) := by decide +kernel
theorem dX4_readInto_18 : decode M_X4_readInto.2.1 18 = .ok (.invokevirtual 27, 3) := by decide +kernel
theorem dX4_readInto_21 : decode M_X4_readInto.2.1 21 = .ok (.aload_n 0, 1) := by decide +kernel
theorem dX4_readInto_22 : decode M_X4_readInto.2.1 22 = .ok (.getfield 19, 3) := by decide +kernel
theorem dX4_readInto_25 : decode M_X4_readInto.2.1 25 = .ok (.aload_n 0, 1) := by decide +kernel
theorem dX4_readInto_26 : decode M_X4_readInto.2.1 26 = .ok (.getfield 15, 3) := by decide +kernel
theorem dX4_readInto_29 : decode M_X4_readInto.2.1 29 = .ok (.if_icmp .lt 5, 3) := by decide +kernel
theorem dX4_readInto_32 : decode M_X4_readInto.2.1 32 = .ok (.iload_n 2, 1) := by decide +kernel
theorem dX4_readInto_33 : decode M_X4_readInto.2.1 33 = .ok (.ireturn, 1) := by decide +kernel
theorem dX4_readInto_34 : decode M_X4_readInto.2.1 34 = .ok (.aload_n 0, 1) := by decide +kernel
theorem dX4_readInto_35 : decode M_X4_readInto.2.1 35 = .ok (.aload_n 1, 1) := by decide +kernel
theorem dX4_readInto_36 : decode M_X4_readInto.2.1 36 = .ok (.invokevirtual 30, 3) := by decide +kernel
theorem dX4_readInto_39 : decode M_X4_readInto.2.1 39 = .ok (.ifCond .ne 5, 3) := by decide +kernel
theorem dX4_readInto_42 : decode M_X4_readInto.2.1 42 = .ok (.iconst (-1), 1) := by decide +kernel
theorem dX4_readInto_43 : decode M_X4_readInto.2.1 43 = .ok (.ireturn, 1) := by decide +kernel
theorem dX4_readInto_44 : decode M_X4_readInto.2.1 44 = .ok (.iinc 2 1, 3) := by decide +kernel
theorem dX4_readInto_47 : decode M_X4_readInto.2.1 47 = .ok (.goto (-36), 3) := by decide +kernel
theorem dX4_readInto_50 : decode M_X4_readInto.2.1 50 = .ok (.iconst (-1), 1) := by decide +kernel
theorem dX4_readInto_51 : decode M_X4_readInto.2.1 51 = .ok (.ireturn, 1) := by decide +kernel
theorem dX4_readItem_0 : decode M_X4_readItem.2.1 0 = .ok (.aload_n 0, 1) := by decide +kernel
theorem dX4_readItem_1 : decode M_X4_readItem.2.1 1 = .ok (.invokevirtual 34, 3) := by decide +kernel
theorem dX4_readItem_4 : decode M_X4_readItem.2.1 4 = .ok (.lookupswitch 40 #[(98, 28), (108, 34)], 28) := by decide +kernel
theorem dX4_readItem_32 : decode M_X4_readItem.2.1 32 = .ok (.aload_n 0, 1) := by decide +kernel
theorem dX4_readItem_33 : decode M_X4_readItem.2.1 33 = .ok (.aload_n 1, 1) := by decide +kernel
theorem dX4_readItem_34 : decode M_X4_readItem.2.1 34 = .ok (.invokevirtual 38, 3) := by decide +kernel
theorem dX4_readItem_37 : decode M_X4_readItem.2.1 37 = .ok (.ireturn, 1) := by decide +kernel
theorem dX4_readItem_38 : decode M_X4_readItem.2.1 38 = .ok (.aload_n 0, 1) := by decide +kernel
theorem dX4_readItem_39 : decode M_X4_readItem.2.1 39 = .ok (.aload_n 1, 1) := by decide +kernel
theorem dX4_readItem_40 : decode M_X4_readItem.2.1 40 = .ok (.invokevirtual 41, 3) := by decide +kernel
theorem dX4_readItem_43 : decode M_X4_readItem.2.1 43 = .ok (.ireturn, 1) := by decide +kernel
theorem dX4_readItem_44 : decode M_X4_readItem.2.1 44 = .ok (.iconst 0, 1) := by decide +kernel
theorem dX4_readItem_45 : decode M_X4_readItem.2.1 45 = .ok (.ireturn, 1) := by decide +kernel
theorem dX4_readBlock_0 : decode M_X4_readBlock.2.1 0 = .ok (.aload_n 1, 1) := by decide +kernel
theorem dX4_readBlock_1 : decode M_X4_readBlock.2.1 1 = .ok (.invokevirtual 44, 3) := by decide +kernel
theorem dX4_readBlock_4 : decode M_X4_readBlock.2.1 4 = .ok (.iconst 4, 1) := by decide +kernel
theorem dX4_readBlock_5 : decode M_X4_readBlock.2.1 5 = .ok (.if_icmp .lt 5, 3) := by decide +kernel
theorem dX4_readBlock_8 : decode M_X4_readBlock.2.1 8 = .ok (.iconst 0, 1) := by decide +kernel
theorem dX4_readBlock_9 : decode M_X4_readBlock.2.1 9 = .ok (.ireturn, 1) := by decide +kernel
theorem dX4_readBlock_10 : decode M_X4_readBlock.2.1 10 = .ok (.aload_n 0, 1) := by decide +kernel
theorem dX4_readBlock_11 : decode M_X4_readBlock.2.1 11 = .ok (.dup, 1) := by decide +kernel
theorem dX4_readBlock_12 : decode M_X4_readBlock.2.1 12 = .ok (.getfield 19, 3) := by decide +kernel
theorem dX4_readBlock_15 : decode M_X4_readBlock.2.1 15 = .ok (.iconst 1, 1) := by decide +kernel
theorem dX4_readBlock_16 : decode M_X4_readBlock.2.1 16 = .ok (.iadd, 1) := by decide +kernel
theorem dX4_readBlock_17 : decode M_X4_readBlock.2.1 17 = .ok (.putfield 19, 3) := by decide +kernel
theorem dX4_readBlock_20 : decode M_X4_readBlock.2.1 20 = .ok (.aload_n 0, 1) := by decide +kernel
theorem dX4_readBlock_21 : decode M_X4_readBlock.2.1 21 = .ok (.iconst 0, 1) := by decide +kernel
theorem dX4_readBlock_22 : decode M_X4_readBlock.2.1 22 = .ok (.bipush 9, 2) := by decide +kernel
theorem dX4_readBlock_24 : decode M_X4_readBlock.2.1 24 = .ok (.invokevirtual 47, 3) := by decide +kernel
theorem dX4_readBlock_27 : decode M_X4_readBlock.2.1 27 = .ok (.istore_n 2, 1) := by decide +kernel
theorem dX4_readBlock_28 : decode M_X4_readBlock.2.1 28 = .ok (.iload_n 2, 1) := by decide +kernel
theorem dX4_readBlock_29 : decode M_X4_readBlock.2.1 29 = .ok (.ifCond .ge 5, 3) := by decide +kernel
theorem dX4_readBlock_32 : decode M_X4_readBlock.2.1 32 = .ok (.iconst 0, 1) := by decide +kernel
theorem dX4_readBlock_33 : decode M_X4_readBlock.2.1 33 = .ok (.ireturn, 1) := by decide +kernel
theorem dX4_readBlock_34 : decode M_X4_readBlock.2.1 34 = .ok (.aload_n 0, 1) := by decide +kernel
theorem dX4_readBlock_35 : decode M_X4_readBlock.2.1 35 = .ok (.iconst 1, 1) := by decide +kernel
theorem dX4_readBlock_36 : decode M_X4_readBlock.2.1 36 = .ok (.iconst 3, 1) := by decide +kernel
theorem dX4_readBlock_37 : decode M_X4_readBlock.2.1 37 = .ok (.invokevirtual 47, 3) := by decide +kernel
theorem dX4_readBlock_40 : decode M_X4_readBlock.2.1 40 = .ok (.istore_n 3, 1) := by decide +kernel
theorem dX4_readBlock_41 : decode M_X4_readBlock.2.1 41 = .ok (.iload_n 3, 1) := by decide +kernel
theorem dX4_readBlock_42 : decode M_X4_readBlock.2.1 42 = .ok (.ifCond .ge 5, 3) := by decide +kernel
theorem dX4_readBlock_45 : decode M_X4_readBlock.2.1 45 = .ok (.iconst 0, 1) := by decide +kernel
theorem dX4_readBlock_46 : decode M_X4_readBlock.2.1 46 = .ok (.ireturn, 1) := by decide +kernel
theorem dX4_readBlock_47 : decode M_X4_readBlock.2.1 47 = .ok (.aload_n 0, 1) := by decide +kernel
theorem dX4_readBlock_48 : decode M_X4_readBlock.2.1 48 = .ok (.iconst 1, 1) := by decide +kernel
theorem dX4_readBlock_49 : decode M_X4_readBlock.2.1 49 = .ok (.bipush 9, 2) := by decide +kernel
theorem dX4_readBlock_51 : decode M_X4_readBlock.2.1 51 = .ok (.invokevirtual 47, 3) := by decide +kernel
theorem dX4_readBlock_54 : decode M_X4_readBlock.2.1 54 = .ok (.istore 4, 2) := by decide +kernel
theorem dX4_readBlock_56 : decode M_X4_readBlock.2.1 56 = .ok (.iload 4, 2) := by decide +kernel
theorem dX4_readBlock_58 : decode M_X4_readBlock.2.1 58 = .ok (.ifCond .lt 10, 3) := by decide +kernel
theorem dX4_readBlock_61 : decode M_X4_readBlock.2.1 61 = .ok (.aload_n 0, 1) := by decide +kernel
theorem dX4_readBlock_62 : decode M_X4_readBlock.2.1 62 = .ok (.invokevirtual 51, 3) := by decide +kernel
theorem dX4_readBlock_65 : decode M_X4_readBlock.2.1 65 = .ok (.ifCond .ne 5, 3) := by decide +kernel
theorem dX4_readBlock_68 : decode M_X4_readBlock.2.1 68 = .ok (.iconst 0, 1) := by decide +kernel
theorem dX4_readBlock_69 : decode M_X4_readBlock.2.1 69 = .ok (.ireturn, 1) := by decide +kernel
theorem dX4_readBlock_70 : decode M_X4_readBlock.2.1 70 = .ok (.aload_n 1, 1) := by decide +kernel
theorem dX4_readBlock_71 : decode M_X4_readBlock.2.1 71 = .ok (.iload_n 2, 1) := by decide +kernel
theorem dX4_readBlock_72 : decode M_X4_readBlock.2.1 72 = .ok (.iload_n 3, 1) := by decide +kernel
theorem dX4_readBlock_73 : decode M_X4_readBlock.2.1 73 = .ok (.iload 4, 2) := by decide +kernel
theorem dX4_readBlock_75 : decode M_X4_readBlock.2.1 75 = .ok (.invokevirtual 55, 3) := by decide +kernel
theorem dX4_readBlock_78 : decode M_X4_readBlock.2.1 78 = .ok (.iconst 1, 1) := by decide +kernel
theorem dX4_readBlock_79 : decode M_X4_readBlock.2.1 79 = .ok (.ireturn, 1) := by decide +kernel
theorem dX4_readLoad_0 : decode M_X4_readLoad.2.1 0 = .ok (.aload_n 0, 1) := by decide +kernel
theorem dX4_readLoad_1 : decode M_X4_readLoad.2.1 1 = .ok (.dup, 1) := by decide +kernel
theorem dX4_readLoad_2 : decode M_X4_readLoad.2.1 2 = .ok (.getfield 19, 3) := by decide +kernel
theorem dX4_readLoad_5 : decode M_X4_readLoad.2.1 5 = .ok (.iconst 1, 1) := by decide +kernel
theorem dX4_readLoad_6 : decode M_X4_readLoad.2.1 6 = .ok (.iadd, 1) := by decide +kernel
theorem dX4_readLoad_7 : decode M_X4_readLoad.2.1 7 = .ok (.putfield 19, 3) := by decide +kernel
theorem dX4_readLoad_10 : decode M_X4_readLoad.2.1 10 = .ok (.aload_n 0, 1) := by decide +kernel
theorem dX4_readLoad_11 : decode M_X4_readLoad.2.1 11 = .ok (.iconst 0, 1) := by decide +kernel
theorem dX4_readLoad_12 : decode M_X4_readLoad.2.1 12 = .ok (.aload_n 1, 1) := by decide +kernel
theorem dX4_readLoad_13 : decode M_X4_readLoad.2.1 13 = .ok (.invokevirtual 44, 3) := by decide +kernel
theorem dX4_readLoad_16 : decode M_X4_readLoad.2.1 16 = .ok (.iconst 1, 1) := by decide +kernel
theorem dX4_readLoad_17 : decode M_X4_readLoad.2.1 17 = .ok (.isub, 1) := by decide +kernel
theorem dX4_readLoad_18 : decode M_X4_readLoad.2.1 18 = .ok (.invokevirtual 47, 3) := by decide +kernel
theorem dX4_readLoad_21 : decode M_X4_readLoad.2.1 21 = .ok (.istore_n 2, 1) := by decide +kernel
theorem dX4_readLoad_22 : decode M_X4_readLoad.2.1 22 = .ok (.iload_n 2, 1) := by decide +kernel
theorem dX4_readLoad_23 : decode M_X4_readLoad.2.1 23 = .ok (.ifCond .ge 5, 3) := by decide +kernel
theorem dX4_readLoad_26 : decode M_X4_readLoad.2.1 26 = .ok (.iconst 0, 1) := by decide +kernel
theorem dX4_readLoad_27 : decode M_X4_readLoad.2.1 27 = .ok (.ireturn, 1) := by decide +kernel
theorem dX4_readLoad_28 : decode M_X4_readLoad.2.1 28 = .ok (.aload_n 0, 1) := by decide +kernel
theorem dX4_readLoad_29 : decode M_X4_readLoad.2.1 29 = .ok (.iconst 0, 1) := by decide +kernel
theorem dX4_readLoad_30 : decode M_X4_readLoad.2.1 30 = .ok (.iconst 2, 1) := by decide +kernel
theorem dX4_readLoad_31 : decode M_X4_readLoad.2.1 31 = .ok (.aload_n 1, 1) := by decide +kernel
theorem dX4_readLoad_32 : decode M_X4_readLoad.2.1 32 = .ok (.iload_n 2, 1) := by decide +kernel
theorem dX4_readLoad_33 : decode M_X4_readLoad.2.1 33 = .ok (.iconst 1, 1) := by decide +kernel
theorem dX4_readLoad_34 : decode M_X4_readLoad.2.1 34 = .ok (.invokevirtual 59, 3) := by decide +kernel
theorem dX4_readLoad_37 : decode M_X4_readLoad.2.1 37 = .ok (.imul, 1) := by decide +kernel
theorem dX4_readLoad_38 : decode M_X4_readLoad.2.1 38 = .ok (.invokevirtual 47, 3) := by decide +kernel
theorem dX4_readLoad_41 : decode M_X4_readLoad.2.1 41 = .ok (.istore_n 3, 1) := by decide +kernel
theorem dX4_readLoad_42 : decode M_X4_readLoad.2.1 42 = .ok (.iload_n 3, 1) := by decide +kernel
theorem dX4_readLoad_43 : decode M_X4_readLoad.2.1 43 = .ok (.ifCond .ge 5, 3) := by decide +kernel
theorem dX4_readLoad_46 : decode M_X4_readLoad.2.1 46 = .ok (.iconst 0, 1) := by decide +kernel
theorem dX4_readLoad_47 : decode M_X4_readLoad.2.1 47 = .ok (.ireturn, 1) := by decide +kernel
theorem dX4_readLoad_48 : decode M_X4_readLoad.2.1 48 = .ok (.aload_n 0, 1) := by decide +kernel
theorem dX4_readLoad_49 : decode M_X4_readLoad.2.1 49 = .ok (.iconst 0, 1) := by decide +kernel
theorem dX4_readLoad_50 : decode M_X4_readLoad.2.1 50 = .ok (.bipush 20, 2) := by decide +kernel
theorem dX4_readLoad_52 : decode M_X4_readLoad.2.1 52 = .ok (.invokevirtual 47, 3) := by decide +kernel
theorem dX4_readLoad_55 : decode M_X4_readLoad.2.1 55 = .ok (.istore 4, 2) := by decide +kernel
theorem dX4_readLoad_57 : decode M_X4_readLoad.2.1 57 = .ok (.iload 4, 2) := by decide +kernel
theorem dX4_readLoad_59 : decode M_X4_readLoad.2.1 59 = .ok (.ifCond .lt 10, 3) := by decide +kernel
theorem dX4_readLoad_62 : decode M_X4_readLoad.2.1 62 = .ok (.aload_n 0, 1) := by decide +kernel
theorem dX4_readLoad_63 : decode M_X4_readLoad.2.1 63 = .ok (.invokevirtual 51, 3) := by decide +kernel
theorem dX4_readLoad_66 : decode M_X4_readLoad.2.1 66 = .ok (.ifCond .ne 5, 3) := by decide +kernel
theorem dX4_readLoad_69 : decode M_X4_readLoad.2.1 69 = .ok (.iconst 0, 1) := by decide +kernel
theorem dX4_readLoad_70 : decode M_X4_readLoad.2.1 70 = .ok (.ireturn, 1) := by decide +kernel
theorem dX4_readLoad_71 : decode M_X4_readLoad.2.1 71 = .ok (.aload_n 1, 1) := by decide +kernel
theorem dX4_readLoad_72 : decode M_X4_readLoad.2.1 72 = .ok (.iload_n 2, 1) := by decide +kernel
theorem dX4_readLoad_73 : decode M_X4_readLoad.2.1 73 = .ok (.iconst 4, 1) := by decide +kernel
theorem dX4_readLoad_74 : decode M_X4_readLoad.2.1 74 = .ok (.iload_n 3, 1) := by decide +kernel
theorem dX4_readLoad_75 : decode M_X4_readLoad.2.1 75 = .ok (.invokevirtual 62, 3) := by decide +kernel
theorem dX4_readLoad_78 : decode M_X4_readLoad.2.1 78 = .ok (.aload_n 1, 1) := by decide +kernel
theorem dX4_readLoad_79 : decode M_X4_readLoad.2.1 79 = .ok (.iload_n 2, 1) := by decide +kernel
theorem dX4_readLoad_80 : decode M_X4_readLoad.2.1 80 = .ok (.iconst 3, 1) := by decide +kernel
theorem dX4_readLoad_81 : decode M_X4_readLoad.2.1 81 = .ok (.iload 4, 2) := by decide +kernel
theorem dX4_readLoad_83 : decode M_X4_readLoad.2.1 83 = .ok (.invokevirtual 62, 3) := by decide +kernel
theorem dX4_readLoad_86 : decode M_X4_readLoad.2.1 86 = .ok (.iconst 1, 1) := by decide +kernel
theorem dX4_readLoad_87 : decode M_X4_readLoad.2.1 87 = .ok (.ireturn, 1) := by decide +kernel
theorem dX4_readNumber_0 : decode M_X4_readNumber.2.1 0 = .ok (.aload_n 0, 1) := by decide +kernel
theorem dX4_readNumber_1 : decode M_X4_readNumber.2.1 1 = .ok (.invokevirtual 27, 3) := by decide +kernel
theorem dX4_readNumber_4 : decode M_X4_readNumber.2.1 4 = .ok (.aload_n 0, 1) := by decide +kernel
theorem dX4_readNumber_5 : decode M_X4_readNumber.2.1 5 = .ok (.getfield 19, 3) := by decide +kernel
theorem dX4_readNumber_8 : decode M_X4_readNumber.2.1 8 = .ok (.istore_n 3, 1) := by decide +kernel
theorem dX4_readNumber_9 : decode M_X4_readNumber.2.1 9 = .ok (.aload_n 0, 1) := by decide +kernel
theorem dX4_readNumber_10 : decode M_X4_readNumber.2.1 10 = .ok (.invokevirtual 34, 3) := by decide +kernel
theorem dX4_readNumber_13 : decode M_X4_readNumber.2.1 13 = .ok (.bipush 48, 2) := by decide +kernel
theorem dX4_readNumber_15 : decode M_X4_readNumber.2.1 15 = .ok (.if_icmp .ne 7, 3) := by decide +kernel
theorem dX4_readNumber_18 : decode M_X4_readNumber.2.1 18 = .ok (.iconst 1, 1) := by decide +kernel
theorem dX4_readNumber_19 : decode M_X4_readNumber.2.1 19 = .ok (.goto 4, 3) := by decide +kernel
theorem dX4_readNumber_22 : decode M_X4_readNumber.2.1 22 = .ok (.iconst 0, 1) := by decide +kernel
theorem dX4_readNumber_23 : decode M_X4_readNumber.2.1 23 = .ok (.istore 4, 2) := by decide +kernel
theorem dX4_readNumber_25 : decode M_X4_readNumber.2.1 25 = .ok (.iconst 0, 1) := by decide +kernel
theorem dX4_readNumber_26 : decode M_X4_readNumber.2.1 26 = .ok (.istore 5, 2) := by decide +kernel
theorem dX4_readNumber_28 : decode M_X4_readNumber.2.1 28 = .ok (.aload_n 0, 1) := by decide +kernel
theorem dX4_readNumber_29 : decode M_X4_readNumber.2.1 29 = .ok (.getfield 19, 3) := by decide +kernel
theorem dX4_readNumber_32 : decode M_X4_readNumber.2.1 32 = .ok (.aload_n 0, 1) := by decide +kernel
theorem dX4_readNumber_33 : decode M_X4_readNumber.2.1 33 = .ok (.getfield 15, 3) := by decide +kernel
theorem dX4_readNumber_36 : decode M_X4_readNumber.2.1 36 = .ok (.if_icmp .ge 46, 3) := by decide +kernel
theorem dX4_readNumber_39 : decode M_X4_readNumber.2.1 39 = .ok (.aload_n 0, 1) := by decide +kernel
theorem dX4_readNumber_40 : decode M_X4_readNumber.2.1 40 = .ok (.invokevirtual 34, 3) := by decide +kernel
theorem dX4_readNumber_43 : decode M_X4_readNumber.2.1 43 = .ok (.invokestatic 65, 3) := by decide +kernel
theorem dX4_readNumber_46 : decode M_X4_readNumber.2.1 46 = .ok (.ifCond .eq 36, 3) := by decide +kernel
theorem dX4_readNumber_49 : decode M_X4_readNumber.2.1 49 = .ok (.bipush 10, 2) := by decide +kernel
theorem dX4_readNumber_51 : decode M_X4_readNumber.2.1 51 = .ok (.iload 5, 2) := by decide +kernel
theorem dX4_readNumber_53 : decode M_X4_readNumber.2.1 53 = .ok (.imul, 1) := by decide +kernel
theorem dX4_readNumber_54 : decode M_X4_readNumber.2.1 54 = .ok (.aload_n 0, 1) := by decide +kernel
theorem dX4_readNumber_55 : decode M_X4_readNumber.2.1 55 = .ok (.invokevirtual 34, 3) := by decide +kernel
theorem dX4_readNumber_58 : decode M_X4_readNumber.2.1 58 = .ok (.iadd, 1) := by decide +kernel
theorem dX4_readNumber_59 : decode M_X4_readNumber.2.1 59 = .ok (.bipush 48, 2) := by decide +kernel
theorem dX4_readNumber_61 : decode M_X4_readNumber.2.1 61 = .ok (.isub, 1) := by decide +kernel
theorem dX4_readNumber_62 : decode M_X4_readNumber.2.1 62 = .ok (.bipush 100, 2) := by decide +kernel
theorem dX4_readNumber_64 : decode M_X4_readNumber.2.1 64 = .ok (.invokestatic 69, 3) := by decide +kernel
theorem dX4_readNumber_67 : decode M_X4_readNumber.2.1 67 = .ok (.istore 5, 2) := by decide +kernel
theorem dX4_readNumber_69 : decode M_X4_readNumber.2.1 69 = .ok (.aload_n 0, 1) := by decide +kernel
theorem dX4_readNumber_70 : decode M_X4_readNumber.2.1 70 = .ok (.dup, 1) := by decide +kernel
theorem dX4_readNumber_71 : decode M_X4_readNumber.2.1 71 = .ok (.getfield 19, 3) := by decide +kernel
theorem dX4_readNumber_74 : decode M_X4_readNumber.2.1 74 = .ok (.iconst 1, 1) := by decide +kernel
theorem dX4_readNumber_75 : decode M_X4_readNumber.2.1 75 = .ok (.iadd, 1) := by decide +kernel
theorem dX4_readNumber_76 : decode M_X4_readNumber.2.1 76 = .ok (.putfield 19, 3) := by decide +kernel
theorem dX4_readNumber_79 : decode M_X4_readNumber.2.1 79 = .ok (.goto (-51), 3) := by decide +kernel
theorem dX4_readNumber_82 : decode M_X4_readNumber.2.1 82 = .ok (.iload 4, 2) := by decide +kernel
theorem dX4_readNumber_84 : decode M_X4_readNumber.2.1 84 = .ok (.ifCond .eq 17, 3) := by decide +kernel
theorem dX4_readNumber_87 : decode M_X4_readNumber.2.1 87 = .ok (.aload_n 0, 1) := by decide +kernel
theorem dX4_readNumber_88 : decode M_X4_readNumber.2.1 88 = .ok (.getfield 19, 3) := by decide +kernel
theorem dX4_readNumber_91 : decode M_X4_readNumber.2.1 91 = .ok (.iload_n 3, 1) := by decide +kernel
theorem dX4_readNumber_92 : decode M_X4_readNumber.2.1 92 = .ok (.isub, 1) := by decide +kernel
theorem dX4_readNumber_93 : decode M_X4_readNumber.2.1 93 = .ok (.iconst 1, 1) := by decide +kernel
theorem dX4_readNumber_94 : decode M_X4_readNumber.2.1 94 = .ok (.if_icmp .le 7, 3) := by decide +kernel
theorem dX4_readNumber_97 : decode M_X4_readNumber.2.1 97 = .ok (.iconst 1, 1) := by decide +kernel
theorem dX4_readNumber_98 : decode M_X4_readNumber.2.1 98 = .ok (.goto 4, 3) := by decide +kernel
theorem dX4_readNumber_101 : decode M_X4_readNumber.2.1 101 = .ok (.iconst 0, 1) := by decide +kernel
theorem dX4_readNumber_102 : decode M_X4_readNumber.2.1 102 = .ok (.istore 6, 2) := by decide +kernel
theorem dX4_readNumber_104 : decode M_X4_readNumber.2.1 104 = .ok (.aload_n 0, 1) := by decide +kernel
theorem dX4_readNumber_105 : decode M_X4_readNumber.2.1 105 = .ok (.getfield 19, 3) := by decide +kernel
theorem dX4_readNumber_108 : decode M_X4_readNumber.2.1 108 = .ok (.iload_n 3, 1) := by decide +kernel
theorem dX4_readNumber_109 : decode M_X4_readNumber.2.1 109 = .ok (.if_icmp .eq 18, 3) := by decide +kernel
theorem dX4_readNumber_112 : decode M_X4_readNumber.2.1 112 = .ok (.iload 6, 2) := by decide +kernel
theorem dX4_readNumber_114 : decode M_X4_readNumber.2.1 114 = .ok (.ifCond .ne 13, 3) := by decide +kernel
theorem dX4_readNumber_117 : decode M_X4_readNumber.2.1 117 = .ok (.iload 5, 2) := by decide +kernel
theorem dX4_readNumber_119 : decode M_X4_readNumber.2.1 119 = .ok (.iload_n 1, 1) := by decide +kernel
theorem dX4_readNumber_120 : decode M_X4_readNumber.2.1 120 = .ok (.iload_n 2, 1) := by decide +kernel
theorem dX4_readNumber_121 : decode M_X4_readNumber.2.1 121 = .ok (.invokestatic 74, 3) := by decide +kernel
theorem dX4_readNumber_124 : decode M_X4_readNumber.2.1 124 = .ok (.ifCond .ne 10, 3) := by decide +kernel
theorem dX4_readNumber_127 : decode M_X4_readNumber.2.1 127 = .ok (.aload_n 0, 1) := by decide +kernel
theorem dX4_readNumber_128 : decode M_X4_readNumber.2.1 128 = .ok (.iload_n 3, 1) := by decide +kernel
theorem dX4_readNumber_129 : decode M_X4_readNumber.2.1 129 = .ok (.putfield 19, 3) := by decide +kernel
theorem dX4_readNumber_132 : decode M_X4_readNumber.2.1 132 = .ok (.iconst (-1), 1) := by decide +kernel
theorem dX4_readNumber_133 : decode M_X4_readNumber.2.1 133 = .ok (.ireturn, 1) := by decide +kernel
theorem dX4_readNumber_134 : decode M_X4_readNumber.2.1 134 = .ok (.iload 5, 2) := by decide +kernel
theorem dX4_readNumber_136 : decode M_X4_readNumber.2.1 136 = .ok (.ireturn, 1) := by decide +kernel
theorem dX4_readEnd_0 : decode M_X4_readEnd.2.1 0 = .ok (.aload_n 0, 1) := by decide +kernel
theorem dX4_readEnd_1 : decode M_X4_readEnd.2.1 1 = .ok (.invokevirtual 27, 3) := by decide +kernel
theorem dX4_readEnd_4 : decode M_X4_readEnd.2.1 4 = .ok (.aload_n 0, 1) := by decide +kernel
theorem dX4_readEnd_5 : decode M_X4_readEnd.2.1 5 = .ok (.invokevirtual 34, 3) := by decide +kernel
theorem dX4_readEnd_8 : decode M_X4_readEnd.2.1 8 = .ok (.bipush 59, 2) := by decide +kernel
theorem dX4_readEnd_10 : decode M_X4_readEnd.2.1 10 = .ok (.if_icmp .eq 5, 3) := by decide +kernel
theorem dX4_readEnd_13 : decode M_X4_readEnd.2.1 13 = .ok (.iconst 0, 1) := by decide +kernel
theorem dX4_readEnd_14 : decode M_X4_readEnd.2.1 14 = .ok (.ireturn, 1) := by decide +kernel
theorem dX4_readEnd_15 : decode M_X4_readEnd.2.1 15 = .ok (.aload_n 0, 1) := by decide +kernel
theorem dX4_readEnd_16 : decode M_X4_readEnd.2.1 16 = .ok (.dup, 1) := by decide +kernel
theorem dX4_readEnd_17 : decode M_X4_readEnd.2.1 17 = .ok (.getfield 19, 3) := by decide +kernel
theorem dX4_readEnd_20 : decode M_X4_readEnd.2.1 20 = .ok (.iconst 1, 1) := by decide +kernel
theorem dX4_readEnd_21 : decode M_X4_readEnd.2.1 21 = .ok (.iadd, 1) := by decide +kernel
theorem dX4_readEnd_22 : decode M_X4_readEnd.2.1 22 = .ok (.putfield 19, 3) := by decide +kernel
theorem dX4_readEnd_25 : decode M_X4_readEnd.2.1 25 = .ok (.iconst 1, 1) := by decide +kernel
theorem dX4_readEnd_26 : decode M_X4_readEnd.2.1 26 = .ok (.ireturn, 1) := by decide +kernel
theorem dX4_skipBlanks_0 : decode M_X4_skipBlanks.2.1 0 = .ok (.aload_n 0, 1) := by decide +kernel
theorem dX4_skipBlanks_1 : decode M_X4_skipBlanks.2.1 1 = .ok (.getfield 19, 3) := by decide +kernel
theorem dX4_skipBlanks_4 : decode M_X4_skipBlanks.2.1 4 = .ok (.aload_n 0, 1) := by decide +kernel
theorem dX4_skipBlanks_5 : decode M_X4_skipBlanks.2.1 5 = .ok (.getfield 15, 3) := by decide +kernel
theorem dX4_skipBlanks_8 : decode M_X4_skipBlanks.2.1 8 = .ok (.if_icmp .ge 25, 3) := by decide +kernel
theorem dX4_skipBlanks_11 : decode M_X4_skipBlanks.2.1 11 = .ok (.aload_n 0, 1) := by decide +kernel
theorem dX4_skipBlanks_12 : decode M_X4_skipBlanks.2.1 12 = .ok (.invokevirtual 34, 3) := by decide +kernel
theorem dX4_skipBlanks_15 : decode M_X4_skipBlanks.2.1 15 = .ok (.bipush 32, 2) := by decide +kernel
theorem dX4_skipBlanks_17 : decode M_X4_skipBlanks.2.1 17 = .ok (.if_icmp .ne 16, 3) := by decide +kernel
theorem dX4_skipBlanks_20 : decode M_X4_skipBlanks.2.1 20 = .ok (.aload_n 0, 1) := by decide +kernel
theorem dX4_skipBlanks_21 : decode M_X4_skipBlanks.2.1 21 = .ok (.dup, 1) := by decide +kernel
theorem dX4_skipBlanks_22 : decode M_X4_skipBlanks.2.1 22 = .ok (.getfield 19, 3) := by decide +kernel
theorem dX4_skipBlanks_25 : decode M_X4_skipBlanks.2.1 25 = .ok (.iconst 1, 1) := by decide +kernel
theorem dX4_skipBlanks_26 : decode M_X4_skipBlanks.2.1 26 = .ok (.iadd, 1) := by decide +kernel
theorem dX4_skipBlanks_27 : decode M_X4_skipBlanks.2.1 27 = .ok (.putfield 19, 3) := by decide +kernel
theorem dX4_skipBlanks_30 : decode M_X4_skipBlanks.2.1 30 = .ok (.goto (-30), 3) := by decide +kernel
theorem dX4_skipBlanks_33 : decode M_X4_skipBlanks.2.1 33 = .ok (.return_, 1) := by decide +kernel
theorem dX4_next_0 : decode M_X4_next.2.1 0 = .ok (.aload_n 0, 1) := by decide +kernel
theorem dX4_next_1 : decode M_X4_next.2.1 1 = .ok (.getfield 19, 3) := by decide +kernel
theorem dX4_next_4 : decode M_X4_next.2.1 4 = .ok (.ifCond .lt 35, 3) := by decide +kernel
theorem dX4_next_7 : decode M_X4_next.2.1 7 = .ok (.aload_n 0, 1) := by decide +kernel
theorem dX4_next_8 : decode M_X4_next.2.1 8 = .ok (.getfield 19, 3) := by decide +kernel
theorem dX4_next_11 : decode M_X4_next.2.1 11 = .ok (.aload_n 0, 1) := by decide +kernel
theorem dX4_next_12 : decode M_X4_next.2.1 12 = .ok (.getfield 15, 3) := by decide +kernel
theorem dX4_next_15 : decode M_X4_next.2.1 15 = .ok (.if_icmp .ge 24, 3) := by decide +kernel
theorem dX4_next_18 : decode M_X4_next.2.1 18 = .ok (.aload_n 0, 1) := by decide +kernel
theorem dX4_next_19 : decode M_X4_next.2.1 19 = .ok (.getfield 19, 3) := by decide +kernel
theorem dX4_next_22 : decode M_X4_next.2.1 22 = .ok (.bipush 120, 2) := by decide +kernel
theorem dX4_next_24 : decode M_X4_next.2.1 24 = .ok (.if_icmp .ge 15, 3) := by decide +kernel
theorem dX4_next_27 : decode M_X4_next.2.1 27 = .ok (.aload_n 0, 1) := by decide +kernel
theorem dX4_next_28 : decode M_X4_next.2.1 28 = .ok (.getfield 9, 3) := by decide +kernel
theorem dX4_next_31 : decode M_X4_next.2.1 31 = .ok (.aload_n 0, 1) := by decide +kernel
end
section
theorem dX4_next_32 : decode M_X4_next.2.1 32 = .ok (.getfield 19, 3) := by decide +kernel
theorem dX4_next_35 : decode M_X4_next.2.1 35 = .ok (.saload, 1) := by decide +kernel
theorem dX4_next_36 : decode M_X4_next.2.1 36 = .ok (.goto 4, 3) := by decide +kernel
theorem dX4_next_39 : decode M_X4_next.2.1 39 = .ok (.iconst (-1), 1) := by decide +kernel
theorem dX4_next_40 : decode M_X4_next.2.1 40 = .ok (.ireturn, 1) := by decide +kernel
theorem dX4_isFigure_0 : decode M_X4_isFigure.2.1 0 = .ok (.iload_n 0, 1) := by decide +kernel
theorem dX4_isFigure_1 : decode M_X4_isFigure.2.1 1 = .ok (.bipush 48, 2) := by decide +kernel
theorem dX4_isFigure_3 : decode M_X4_isFigure.2.1 3 = .ok (.bipush 57, 2) := by decide +kernel
theorem dX4_isFigure_5 : decode M_X4_isFigure.2.1 5 = .ok (.invokestatic 74, 3) := by decide +kernel
theorem dX4_isFigure_8 : decode M_X4_isFigure.2.1 8 = .ok (.ireturn, 1) := by decide +kernel
theorem dX5_init_0 : decode M_X5_init.2.1 0 = .ok (.aload_n 0, 1) := by decide +kernel
theorem dX5_init_1 : decode M_X5_init.2.1 1 = .ok (.invokespecial 1, 3) := by decide +kernel
theorem dX5_init_4 : decode M_X5_init.2.1 4 = .ok (.aload_n 0, 1) := by decide +kernel
theorem dX5_init_5 : decode M_X5_init.2.1 5 = .ok (.new 7, 3) := by decide +kernel
theorem dX5_init_8 : decode M_X5_init.2.1 8 = .ok (.dup, 1) := by decide +kernel
theorem dX5_init_9 : decode M_X5_init.2.1 9 = .ok (.invokespecial 9, 3) := by decide +kernel
theorem dX5_init_12 : decode M_X5_init.2.1 12 = .ok (.putfield 10, 3) := by decide +kernel
theorem dX5_init_15 : decode M_X5_init.2.1 15 = .ok (.aload_n 0, 1) := by decide +kernel
theorem dX5_init_16 : decode M_X5_init.2.1 16 = .ok (.new 7, 3) := by decide +kernel
theorem dX5_init_19 : decode M_X5_init.2.1 19 = .ok (.dup, 1) := by decide +kernel
theorem dX5_init_20 : decode M_X5_init.2.1 20 = .ok (.invokespecial 9, 3) := by decide +kernel
theorem dX5_init_23 : decode M_X5_init.2.1 23 = .ok (.putfield 16, 3) := by decide +kernel
theorem dX5_init_26 : decode M_X5_init.2.1 26 = .ok (.aload_n 0, 1) := by decide +kernel
theorem dX5_init_27 : decode M_X5_init.2.1 27 = .ok (.new 19, 3) := by decide +kernel
theorem dX5_init_30 : decode M_X5_init.2.1 30 = .ok (.dup, 1) := by decide +kernel
theorem dX5_init_31 : decode M_X5_init.2.1 31 = .ok (.invokespecial 21, 3) := by decide +kernel
theorem dX5_init_34 : decode M_X5_init.2.1 34 = .ok (.putfield 22, 3) := by decide +kernel
theorem dX5_init_37 : decode M_X5_init.2.1 37 = .ok (.aload_n 0, 1) := by decide +kernel
theorem dX5_init_38 : decode M_X5_init.2.1 38 = .ok (.new 26, 3) := by decide +kernel
theorem dX5_init_41 : decode M_X5_init.2.1 41 = .ok (.dup, 1) := by decide +kernel
theorem dX5_init_42 : decode M_X5_init.2.1 42 = .ok (.invokespecial 28, 3) := by decide +kernel
theorem dX5_init_45 : decode M_X5_init.2.1 45 = .ok (.putfield 29, 3) := by decide +kernel
theorem dX5_init_48 : decode M_X5_init.2.1 48 = .ok (.aload_n 0, 1) := by decide +kernel
theorem dX5_init_49 : decode M_X5_init.2.1 49 = .ok (.new 33, 3) := by decide +kernel
theorem dX5_init_52 : decode M_X5_init.2.1 52 = .ok (.dup, 1) := by decide +kernel
theorem dX5_init_53 : decode M_X5_init.2.1 53 = .ok (.invokespecial 35, 3) := by decide +kernel
theorem dX5_init_56 : decode M_X5_init.2.1 56 = .ok (.putfield 36, 3) := by decide +kernel
theorem dX5_init_59 : decode M_X5_init.2.1 59 = .ok (.aload_n 0, 1) := by decide +kernel
theorem dX5_init_60 : decode M_X5_init.2.1 60 = .ok (.new 40, 3) := by decide +kernel
theorem dX5_init_63 : decode M_X5_init.2.1 63 = .ok (.dup, 1) := by decide +kernel
theorem dX5_init_64 : decode M_X5_init.2.1 64 = .ok (.bipush 6, 2) := by decide +kernel
theorem dX5_init_66 : decode M_X5_init.2.1 66 = .ok (.invokespecial 42, 3) := by decide +kernel
theorem dX5_init_69 : decode M_X5_init.2.1 69 = .ok (.putfield 45, 3) := by decide +kernel
theorem dX5_init_72 : decode M_X5_init.2.1 72 = .ok (.aload_n 0, 1) := by decide +kernel
theorem dX5_init_73 : decode M_X5_init.2.1 73 = .ok (.new 40, 3) := by decide +kernel
theorem dX5_init_76 : decode M_X5_init.2.1 76 = .ok (.dup, 1) := by decide +kernel
theorem dX5_init_77 : decode M_X5_init.2.1 77 = .ok (.iconst 2, 1) := by decide +kernel
theorem dX5_init_78 : decode M_X5_init.2.1 78 = .ok (.invokespecial 42, 3) := by decide +kernel
theorem dX5_init_81 : decode M_X5_init.2.1 81 = .ok (.putfield 49, 3) := by decide +kernel
theorem dX5_init_84 : decode M_X5_init.2.1 84 = .ok (.aload_n 0, 1) := by decide +kernel
theorem dX5_init_85 : decode M_X5_init.2.1 85 = .ok (.iconst 2, 1) := by decide +kernel
theorem dX5_init_86 : decode M_X5_init.2.1 86 = .ok (.newarray .boolean, 2) := by decide +kernel
theorem dX5_init_88 : decode M_X5_init.2.1 88 = .ok (.putfield 52, 3) := by decide +kernel
theorem dX5_init_91 : decode M_X5_init.2.1 91 = .ok (.aload_n 0, 1) := by decide +kernel
theorem dX5_init_92 : decode M_X5_init.2.1 92 = .ok (.iconst 0, 1) := by decide +kernel
theorem dX5_init_93 : decode M_X5_init.2.1 93 = .ok (.putfield 56, 3) := by decide +kernel
theorem dX5_init_96 : decode M_X5_init.2.1 96 = .ok (.return_, 1) := by decide +kernel
theorem dX5_type_0 : decode M_X5_type.2.1 0 = .ok (.iload_n 1, 1) := by decide +kernel
theorem dX5_type_1 : decode M_X5_type.2.1 1 = .ok (.iconst 0, 1) := by decide +kernel
theorem dX5_type_2 : decode M_X5_type.2.1 2 = .ok (.sipush 255, 3) := by decide +kernel
theorem dX5_type_5 : decode M_X5_type.2.1 5 = .ok (.invokestatic 60, 3) := by decide +kernel
theorem dX5_type_8 : decode M_X5_type.2.1 8 = .ok (.ifCond .ne 5, 3) := by decide +kernel
theorem dX5_type_11 : decode M_X5_type.2.1 11 = .ok (.iconst (-1), 1) := by decide +kernel
theorem dX5_type_12 : decode M_X5_type.2.1 12 = .ok (.ireturn, 1) := by decide +kernel
theorem dX5_type_13 : decode M_X5_type.2.1 13 = .ok (.aload_n 0, 1) := by decide +kernel
theorem dX5_type_14 : decode M_X5_type.2.1 14 = .ok (.getfield 36, 3) := by decide +kernel
theorem dX5_type_17 : decode M_X5_type.2.1 17 = .ok (.iload_n 1, 1) := by decide +kernel
theorem dX5_type_18 : decode M_X5_type.2.1 18 = .ok (.invokevirtual 64, 3) := by decide +kernel
theorem dX5_type_21 : decode M_X5_type.2.1 21 = .ok (.ifCond .eq 13, 3) := by decide +kernel
theorem dX5_type_24 : decode M_X5_type.2.1 24 = .ok (.aload_n 0, 1) := by decide +kernel
theorem dX5_type_25 : decode M_X5_type.2.1 25 = .ok (.getfield 36, 3) := by decide +kernel
theorem dX5_type_28 : decode M_X5_type.2.1 28 = .ok (.invokevirtual 68, 3) := by decide +kernel
theorem dX5_type_31 : decode M_X5_type.2.1 31 = .ok (.goto 5, 3) := by decide +kernel
theorem dX5_type_34 : decode M_X5_type.2.1 34 = .ok (.bipush (-3), 2) := by decide +kernel
theorem dX5_type_36 : decode M_X5_type.2.1 36 = .ok (.ireturn, 1) := by decide +kernel
theorem dX5_clear_0 : decode M_X5_clear.2.1 0 = .ok (.aload_n 0, 1) := by decide +kernel
theorem dX5_clear_1 : decode M_X5_clear.2.1 1 = .ok (.getfield 36, 3) := by decide +kernel
theorem dX5_clear_4 : decode M_X5_clear.2.1 4 = .ok (.invokevirtual 68, 3) := by decide +kernel
theorem dX5_clear_7 : decode M_X5_clear.2.1 7 = .ok (.istore_n 1, 1) := by decide +kernel
theorem dX5_clear_8 : decode M_X5_clear.2.1 8 = .ok (.aload_n 0, 1) := by decide +kernel
theorem dX5_clear_9 : decode M_X5_clear.2.1 9 = .ok (.getfield 36, 3) := by decide +kernel
theorem dX5_clear_12 : decode M_X5_clear.2.1 12 = .ok (.invokevirtual 72, 3) := by decide +kernel
theorem dX5_clear_15 : decode M_X5_clear.2.1 15 = .ok (.iload_n 1, 1) := by decide +kernel
theorem dX5_clear_16 : decode M_X5_clear.2.1 16 = .ok (.ireturn, 1) := by decide +kernel
theorem dX5_tells_0 : decode M_X5_tells.2.1 0 = .ok (.aload_n 0, 1) := by decide +kernel
theorem dX5_tells_1 : decode M_X5_tells.2.1 1 = .ok (.getfield 36, 3) := by decide +kernel
theorem dX5_tells_4 : decode M_X5_tells.2.1 4 = .ok (.aload_n 0, 1) := by decide +kernel
theorem dX5_tells_5 : decode M_X5_tells.2.1 5 = .ok (.getfield 16, 3) := by decide +kernel
theorem dX5_tells_8 : decode M_X5_tells.2.1 8 = .ok (.invokevirtual 75, 3) := by decide +kernel
theorem dX5_tells_11 : decode M_X5_tells.2.1 11 = .ok (.istore_n 1, 1) := by decide +kernel
theorem dX5_tells_12 : decode M_X5_tells.2.1 12 = .ok (.iload_n 1, 1) := by decide +kernel
theorem dX5_tells_13 : decode M_X5_tells.2.1 13 = .ok (.ifCond .ge 14, 3) := by decide +kernel
theorem dX5_tells_16 : decode M_X5_tells.2.1 16 = .ok (.bipush (-10), 2) := by decide +kernel
theorem dX5_tells_18 : decode M_X5_tells.2.1 18 = .ok (.aload_n 0, 1) := by decide +kernel
theorem dX5_tells_19 : decode M_X5_tells.2.1 19 = .ok (.getfield 36, 3) := by decide +kernel
theorem dX5_tells_22 : decode M_X5_tells.2.1 22 = .ok (.invokevirtual 79, 3) := by decide +kernel
theorem dX5_tells_25 : decode M_X5_tells.2.1 25 = .ok (.isub, 1) := by decide +kernel
theorem dX5_tells_26 : decode M_X5_tells.2.1 26 = .ok (.ireturn, 1) := by decide +kernel
theorem dX5_tells_27 : decode M_X5_tells.2.1 27 = .ok (.aload_n 0, 1) := by decide +kernel
theorem dX5_tells_28 : decode M_X5_tells.2.1 28 = .ok (.invokevirtual 82, 3) := by decide +kernel
theorem dX5_tells_31 : decode M_X5_tells.2.1 31 = .ok (.aload_n 0, 1) := by decide +kernel
theorem dX5_tells_32 : decode M_X5_tells.2.1 32 = .ok (.getfield 10, 3) := by decide +kernel
theorem dX5_tells_35 : decode M_X5_tells.2.1 35 = .ok (.aload_n 0, 1) := by decide +kernel
theorem dX5_tells_36 : decode M_X5_tells.2.1 36 = .ok (.getfield 16, 3) := by decide +kernel
theorem dX5_tells_39 : decode M_X5_tells.2.1 39 = .ok (.invokevirtual 85, 3) := by decide +kernel
theorem dX5_tells_42 : decode M_X5_tells.2.1 42 = .ok (.aload_n 0, 1) := by decide +kernel
theorem dX5_tells_43 : decode M_X5_tells.2.1 43 = .ok (.getfield 36, 3) := by decide +kernel
theorem dX5_tells_46 : decode M_X5_tells.2.1 46 = .ok (.invokevirtual 72, 3) := by decide +kernel
theorem dX5_tells_49 : decode M_X5_tells.2.1 49 = .ok (.iload_n 1, 1) := by decide +kernel
theorem dX5_tells_50 : decode M_X5_tells.2.1 50 = .ok (.ireturn, 1) := by decide +kernel
theorem dX5_drops_0 : decode M_X5_drops.2.1 0 = .ok (.iload_n 1, 1) := by decide +kernel
theorem dX5_drops_1 : decode M_X5_drops.2.1 1 = .ok (.iconst 0, 1) := by decide +kernel
theorem dX5_drops_2 : decode M_X5_drops.2.1 2 = .ok (.bipush 9, 2) := by decide +kernel
theorem dX5_drops_4 : decode M_X5_drops.2.1 4 = .ok (.invokestatic 60, 3) := by decide +kernel
theorem dX5_drops_7 : decode M_X5_drops.2.1 7 = .ok (.ifCond .eq 11, 3) := by decide +kernel
theorem dX5_drops_10 : decode M_X5_drops.2.1 10 = .ok (.iload_n 2, 1) := by decide +kernel
theorem dX5_drops_11 : decode M_X5_drops.2.1 11 = .ok (.iload_n 3, 1) := by decide +kernel
theorem dX5_drops_12 : decode M_X5_drops.2.1 12 = .ok (.invokestatic 89, 3) := by decide +kernel
theorem dX5_drops_15 : decode M_X5_drops.2.1 15 = .ok (.ifCond .ne 5, 3) := by decide +kernel
theorem dX5_drops_18 : decode M_X5_drops.2.1 18 = .ok (.iconst (-1), 1) := by decide +kernel
theorem dX5_drops_19 : decode M_X5_drops.2.1 19 = .ok (.ireturn, 1) := by decide +kernel
theorem dX5_drops_20 : decode M_X5_drops.2.1 20 = .ok (.aload_n 0, 1) := by decide +kernel
theorem dX5_drops_21 : decode M_X5_drops.2.1 21 = .ok (.getfield 10, 3) := by decide +kernel
theorem dX5_drops_24 : decode M_X5_drops.2.1 24 = .ok (.invokevirtual 93, 3) := by decide +kernel
theorem dX5_drops_27 : decode M_X5_drops.2.1 27 = .ok (.iconst 4, 1) := by decide +kernel
theorem dX5_drops_28 : decode M_X5_drops.2.1 28 = .ok (.if_icmp .lt 6, 3) := by decide +kernel
theorem dX5_drops_31 : decode M_X5_drops.2.1 31 = .ok (.bipush (-3), 2) := by decide +kernel
theorem dX5_drops_33 : decode M_X5_drops.2.1 33 = .ok (.ireturn, 1) := by decide +kernel
theorem dX5_drops_34 : decode M_X5_drops.2.1 34 = .ok (.aload_n 0, 1) := by decide +kernel
theorem dX5_drops_35 : decode M_X5_drops.2.1 35 = .ok (.invokevirtual 82, 3) := by decide +kernel
theorem dX5_drops_38 : decode M_X5_drops.2.1 38 = .ok (.aload_n 0, 1) := by decide +kernel
theorem dX5_drops_39 : decode M_X5_drops.2.1 39 = .ok (.getfield 10, 3) := by decide +kernel
theorem dX5_drops_42 : decode M_X5_drops.2.1 42 = .ok (.iload_n 1, 1) := by decide +kernel
theorem dX5_drops_43 : decode M_X5_drops.2.1 43 = .ok (.iload_n 2, 1) := by decide +kernel
theorem dX5_drops_44 : decode M_X5_drops.2.1 44 = .ok (.iload_n 3, 1) := by decide +kernel
theorem dX5_drops_45 : decode M_X5_drops.2.1 45 = .ok (.invokevirtual 96, 3) := by decide +kernel
theorem dX5_drops_48 : decode M_X5_drops.2.1 48 = .ok (.aload_n 0, 1) := by decide +kernel
theorem dX5_drops_49 : decode M_X5_drops.2.1 49 = .ok (.getfield 22, 3) := by decide +kernel
theorem dX5_drops_52 : decode M_X5_drops.2.1 52 = .ok (.aload_n 0, 1) := by decide +kernel
theorem dX5_drops_53 : decode M_X5_drops.2.1 53 = .ok (.getfield 10, 3) := by decide +kernel
theorem dX5_drops_56 : decode M_X5_drops.2.1 56 = .ok (.invokevirtual 100, 3) := by decide +kernel
theorem dX5_drops_59 : decode M_X5_drops.2.1 59 = .ok (.aload_n 0, 1) := by decide +kernel
theorem dX5_drops_60 : decode M_X5_drops.2.1 60 = .ok (.getfield 22, 3) := by decide +kernel
theorem dX5_drops_63 : decode M_X5_drops.2.1 63 = .ok (.aload_n 0, 1) := by decide +kernel
theorem dX5_drops_64 : decode M_X5_drops.2.1 64 = .ok (.getfield 10, 3) := by decide +kernel
theorem dX5_drops_67 : decode M_X5_drops.2.1 67 = .ok (.invokevirtual 93, 3) := by decide +kernel
theorem dX5_drops_70 : decode M_X5_drops.2.1 70 = .ok (.iconst 1, 1) := by decide +kernel
theorem dX5_drops_71 : decode M_X5_drops.2.1 71 = .ok (.isub, 1) := by decide +kernel
theorem dX5_drops_72 : decode M_X5_drops.2.1 72 = .ok (.invokevirtual 103, 3) := by decide +kernel
theorem dX5_drops_75 : decode M_X5_drops.2.1 75 = .ok (.ireturn, 1) := by decide +kernel
theorem dX5_lifts_0 : decode M_X5_lifts.2.1 0 = .ok (.aload_n 0, 1) := by decide +kernel
theorem dX5_lifts_1 : decode M_X5_lifts.2.1 1 = .ok (.getfield 10, 3) := by decide +kernel
theorem dX5_lifts_4 : decode M_X5_lifts.2.1 4 = .ok (.iload_n 1, 1) := by decide +kernel
theorem dX5_lifts_5 : decode M_X5_lifts.2.1 5 = .ok (.invokevirtual 107, 3) := by decide +kernel
theorem dX5_lifts_8 : decode M_X5_lifts.2.1 8 = .ok (.ifCond .ne 5, 3) := by decide +kernel
theorem dX5_lifts_11 : decode M_X5_lifts.2.1 11 = .ok (.iconst (-1), 1) := by decide +kernel
theorem dX5_lifts_12 : decode M_X5_lifts.2.1 12 = .ok (.ireturn, 1) := by decide +kernel
theorem dX5_lifts_13 : decode M_X5_lifts.2.1 13 = .ok (.aload_n 0, 1) := by decide +kernel
theorem dX5_lifts_14 : decode M_X5_lifts.2.1 14 = .ok (.getfield 22, 3) := by decide +kernel
theorem dX5_lifts_17 : decode M_X5_lifts.2.1 17 = .ok (.aload_n 0, 1) := by decide +kernel
theorem dX5_lifts_18 : decode M_X5_lifts.2.1 18 = .ok (.getfield 10, 3) := by decide +kernel
theorem dX5_lifts_21 : decode M_X5_lifts.2.1 21 = .ok (.invokevirtual 100, 3) := by decide +kernel
theorem dX5_lifts_24 : decode M_X5_lifts.2.1 24 = .ok (.aload_n 0, 1) := by decide +kernel
theorem dX5_lifts_25 : decode M_X5_lifts.2.1 25 = .ok (.getfield 22, 3) := by decide +kernel
theorem dX5_lifts_28 : decode M_X5_lifts.2.1 28 = .ok (.iload_n 1, 1) := by decide +kernel
theorem dX5_lifts_29 : decode M_X5_lifts.2.1 29 = .ok (.invokevirtual 110, 3) := by decide +kernel
theorem dX5_lifts_32 : decode M_X5_lifts.2.1 32 = .ok (.ifCond .eq 6, 3) := by decide +kernel
theorem dX5_lifts_35 : decode M_X5_lifts.2.1 35 = .ok (.bipush (-2), 2) := by decide +kernel
theorem dX5_lifts_37 : decode M_X5_lifts.2.1 37 = .ok (.ireturn, 1) := by decide +kernel
theorem dX5_lifts_38 : decode M_X5_lifts.2.1 38 = .ok (.aload_n 0, 1) := by decide +kernel
theorem dX5_lifts_39 : decode M_X5_lifts.2.1 39 = .ok (.invokevirtual 82, 3) := by decide +kernel
theorem dX5_lifts_42 : decode M_X5_lifts.2.1 42 = .ok (.aload_n 0, 1) := by decide +kernel
theorem dX5_lifts_43 : decode M_X5_lifts.2.1 43 = .ok (.getfield 10, 3) := by decide +kernel
theorem dX5_lifts_46 : decode M_X5_lifts.2.1 46 = .ok (.iload_n 1, 1) := by decide +kernel
theorem dX5_lifts_47 : decode M_X5_lifts.2.1 47 = .ok (.invokevirtual 113, 3) := by decide +kernel
theorem dX5_lifts_50 : decode M_X5_lifts.2.1 50 = .ok (.aload_n 0, 1) := by decide +kernel
theorem dX5_lifts_51 : decode M_X5_lifts.2.1 51 = .ok (.getfield 10, 3) := by decide +kernel
theorem dX5_lifts_54 : decode M_X5_lifts.2.1 54 = .ok (.invokevirtual 93, 3) := by decide +kernel
theorem dX5_lifts_57 : decode M_X5_lifts.2.1 57 = .ok (.ireturn, 1) := by decide +kernel
theorem dX5_weighs_0 : decode M_X5_weighs.2.1 0 = .ok (.aload_n 0, 1) := by decide +kernel
theorem dX5_weighs_1 : decode M_X5_weighs.2.1 1 = .ok (.getfield 10, 3) := by decide +kernel
theorem dX5_weighs_4 : decode M_X5_weighs.2.1 4 = .ok (.iload_n 1, 1) := by decide +kernel
theorem dX5_weighs_5 : decode M_X5_weighs.2.1 5 = .ok (.invokevirtual 107, 3) := by decide +kernel
theorem dX5_weighs_8 : decode M_X5_weighs.2.1 8 = .ok (.ifCond .eq 13, 3) := by decide +kernel
theorem dX5_weighs_11 : decode M_X5_weighs.2.1 11 = .ok (.iload_n 2, 1) := by decide +kernel
theorem dX5_weighs_12 : decode M_X5_weighs.2.1 12 = .ok (.iconst 1, 1) := by decide +kernel
theorem dX5_weighs_13 : decode M_X5_weighs.2.1 13 = .ok (.bipush 9, 2) := by decide +kernel
theorem dX5_weighs_15 : decode M_X5_weighs.2.1 15 = .ok (.invokestatic 60, 3) := by decide +kernel
theorem dX5_weighs_18 : decode M_X5_weighs.2.1 18 = .ok (.ifCond .ne 5, 3) := by decide +kernel
theorem dX5_weighs_21 : decode M_X5_weighs.2.1 21 = .ok (.iconst (-1), 1) := by decide +kernel
theorem dX5_weighs_22 : decode M_X5_weighs.2.1 22 = .ok (.ireturn, 1) := by decide +kernel
theorem dX5_weighs_23 : decode M_X5_weighs.2.1 23 = .ok (.aload_n 0, 1) := by decide +kernel
theorem dX5_weighs_24 : decode M_X5_weighs.2.1 24 = .ok (.getfield 10, 3) := by decide +kernel
theorem dX5_weighs_27 : decode M_X5_weighs.2.1 27 = .ok (.iload_n 1, 1) := by decide +kernel
theorem dX5_weighs_28 : decode M_X5_weighs.2.1 28 = .ok (.iconst 2, 1) := by decide +kernel
theorem dX5_weighs_29 : decode M_X5_weighs.2.1 29 = .ok (.invokevirtual 116, 3) := by decide +kernel
theorem dX5_weighs_32 : decode M_X5_weighs.2.1 32 = .ok (.istore_n 3, 1) := by decide +kernel
theorem dX5_weighs_33 : decode M_X5_weighs.2.1 33 = .ok (.iload_n 3, 1) := by decide +kernel
theorem dX5_weighs_34 : decode M_X5_weighs.2.1 34 = .ok (.iload_n 2, 1) := by decide +kernel
theorem dX5_weighs_35 : decode M_X5_weighs.2.1 35 = .ok (.if_icmp .ne 6, 3) := by decide +kernel
theorem dX5_weighs_38 : decode M_X5_weighs.2.1 38 = .ok (.bipush (-2), 2) := by decide +kernel
theorem dX5_weighs_40 : decode M_X5_weighs.2.1 40 = .ok (.ireturn, 1) := by decide +kernel
theorem dX5_weighs_41 : decode M_X5_weighs.2.1 41 = .ok (.aload_n 0, 1) := by decide +kernel
theorem dX5_weighs_42 : decode M_X5_weighs.2.1 42 = .ok (.invokevirtual 82, 3) := by decide +kernel
theorem dX5_weighs_45 : decode M_X5_weighs.2.1 45 = .ok (.aload_n 0, 1) := by decide +kernel
theorem dX5_weighs_46 : decode M_X5_weighs.2.1 46 = .ok (.getfield 10, 3) := by decide +kernel
theorem dX5_weighs_49 : decode M_X5_weighs.2.1 49 = .ok (.iload_n 1, 1) := by decide +kernel
theorem dX5_weighs_50 : decode M_X5_weighs.2.1 50 = .ok (.iconst 2, 1) := by decide +kernel
theorem dX5_weighs_51 : decode M_X5_weighs.2.1 51 = .ok (.iload_n 2, 1) := by decide +kernel
theorem dX5_weighs_52 : decode M_X5_weighs.2.1 52 = .ok (.invokevirtual 120, 3) := by decide +kernel
theorem dX5_weighs_55 : decode M_X5_weighs.2.1 55 = .ok (.iload_n 3, 1) := by decide +kernel
theorem dX5_weighs_56 : decode M_X5_weighs.2.1 56 = .ok (.ireturn, 1) := by decide +kernel
theorem dX5_loads_0 : decode M_X5_loads.2.1 0 = .ok (.aload_n 0, 1) := by decide +kernel
theorem dX5_loads_1 : decode M_X5_loads.2.1 1 = .ok (.iload_n 1, 1) := by decide +kernel
theorem dX5_loads_2 : decode M_X5_loads.2.1 2 = .ok (.iload_n 2, 1) := by decide +kernel
theorem dX5_loads_3 : decode M_X5_loads.2.1 3 = .ok (.invokevirtual 123, 3) := by decide +kernel
theorem dX5_loads_6 : decode M_X5_loads.2.1 6 = .ok (.ifCond .eq 13, 3) := by decide +kernel
theorem dX5_loads_9 : decode M_X5_loads.2.1 9 = .ok (.iload_n 3, 1) := by decide +kernel
theorem dX5_loads_10 : decode M_X5_loads.2.1 10 = .ok (.iconst 0, 1) := by decide +kernel
theorem dX5_loads_11 : decode M_X5_loads.2.1 11 = .ok (.bipush 20, 2) := by decide +kernel
theorem dX5_loads_13 : decode M_X5_loads.2.1 13 = .ok (.invokestatic 60, 3) := by decide +kernel
theorem dX5_loads_16 : decode M_X5_loads.2.1 16 = .ok (.ifCond .ne 5, 3) := by decide +kernel
theorem dX5_loads_19 : decode M_X5_loads.2.1 19 = .ok (.iconst (-1), 1) := by decide +kernel
theorem dX5_loads_20 : decode M_X5_loads.2.1 20 = .ok (.ireturn, 1) := by decide +kernel
theorem dX5_loads_21 : decode M_X5_loads.2.1 21 = .ok (.aload_n 0, 1) := by decide +kernel
theorem dX5_loads_22 : decode M_X5_loads.2.1 22 = .ok (.getfield 10, 3) := by decide +kernel
theorem dX5_loads_25 : decode M_X5_loads.2.1 25 = .ok (.iload_n 1, 1) := by decide +kernel
theorem dX5_loads_26 : decode M_X5_loads.2.1 26 = .ok (.iconst 3, 1) := by decide +kernel
theorem dX5_loads_27 : decode M_X5_loads.2.1 27 = .ok (.invokevirtual 116, 3) := by decide +kernel
theorem dX5_loads_30 : decode M_X5_loads.2.1 30 = .ok (.istore 4, 2) := by decide +kernel
theorem dX5_loads_32 : decode M_X5_loads.2.1 32 = .ok (.iload 4, 2) := by decide +kernel
theorem dX5_loads_34 : decode M_X5_loads.2.1 34 = .ok (.iload_n 3, 1) := by decide +kernel
theorem dX5_loads_35 : decode M_X5_loads.2.1 35 = .ok (.if_icmp .ne 19, 3) := by decide +kernel
theorem dX5_loads_38 : decode M_X5_loads.2.1 38 = .ok (.aload_n 0, 1) := by decide +kernel
theorem dX5_loads_39 : decode M_X5_loads.2.1 39 = .ok (.getfield 10, 3) := by decide +kernel
theorem dX5_loads_42 : decode M_X5_loads.2.1 42 = .ok (.iload_n 1, 1) := by decide +kernel
theorem dX5_loads_43 : decode M_X5_loads.2.1 43 = .ok (.iconst 4, 1) := by decide +kernel
theorem dX5_loads_44 : decode M_X5_loads.2.1 44 = .ok (.invokevirtual 116, 3) := by decide +kernel
theorem dX5_loads_47 : decode M_X5_loads.2.1 47 = .ok (.iload_n 2, 1) := by decide +kernel
theorem dX5_loads_48 : decode M_X5_loads.2.1 48 = .ok (.if_icmp .ne 6, 3) := by decide +kernel
theorem dX5_loads_51 : decode M_X5_loads.2.1 51 = .ok (.bipush (-2), 2) := by decide +kernel
theorem dX5_loads_53 : decode M_X5_loads.2.1 53 = .ok (.ireturn, 1) := by decide +kernel
theorem dX5_loads_54 : decode M_X5_loads.2.1 54 = .ok (.aload_n 0, 1) := by decide +kernel
theorem dX5_loads_55 : decode M_X5_loads.2.1 55 = .ok (.invokevirtual 82, 3) := by decide +kernel
theorem dX5_loads_58 : decode M_X5_loads.2.1 58 = .ok (.aload_n 0, 1) := by decide +kernel
theorem dX5_loads_59 : decode M_X5_loads.2.1 59 = .ok (.getfield 10, 3) := by decide +kernel
theorem dX5_loads_62 : decode M_X5_loads.2.1 62 = .ok (.iload_n 1, 1) := by decide +kernel
theorem dX5_loads_63 : decode M_X5_loads.2.1 63 = .ok (.iconst 3, 1) := by decide +kernel
theorem dX5_loads_64 : decode M_X5_loads.2.1 64 = .ok (.iload_n 3, 1) := by decide +kernel
theorem dX5_loads_65 : decode M_X5_loads.2.1 65 = .ok (.invokevirtual 120, 3) := by decide +kernel
theorem dX5_loads_68 : decode M_X5_loads.2.1 68 = .ok (.aload_n 0, 1) := by decide +kernel
theorem dX5_loads_69 : decode M_X5_loads.2.1 69 = .ok (.getfield 10, 3) := by decide +kernel
theorem dX5_loads_72 : decode M_X5_loads.2.1 72 = .ok (.iload_n 1, 1) := by decide +kernel
theorem dX5_loads_73 : decode M_X5_loads.2.1 73 = .ok (.iconst 4, 1) := by decide +kernel
theorem dX5_loads_74 : decode M_X5_loads.2.1 74 = .ok (.iload_n 2, 1) := by decide +kernel
theorem dX5_loads_75 : decode M_X5_loads.2.1 75 = .ok (.invokevirtual 120, 3) := by decide +kernel
theorem dX5_loads_78 : decode M_X5_loads.2.1 78 = .ok (.iload 4, 2) := by decide +kernel
theorem dX5_loads_80 : decode M_X5_loads.2.1 80 = .ok (.ireturn, 1) := by decide +kernel
theorem dX5_undo_0 : decode M_X5_undo.2.1 0 = .ok (.aload_n 0, 1) := by decide +kernel
theorem dX5_undo_1 : decode M_X5_undo.2.1 1 = .ok (.getfield 56, 3) := by decide +kernel
theorem dX5_undo_4 : decode M_X5_undo.2.1 4 = .ok (.ifCond .gt 6, 3) := by decide +kernel
theorem dX5_undo_7 : decode M_X5_undo.2.1 7 = .ok (.bipush (-2), 2) := by decide +kernel
theorem dX5_undo_9 : decode M_X5_undo.2.1 9 = .ok (.ireturn, 1) := by decide +kernel
theorem dX5_undo_10 : decode M_X5_undo.2.1 10 = .ok (.aload_n 0, 1) := by decide +kernel
theorem dX5_undo_11 : decode M_X5_undo.2.1 11 = .ok (.dup, 1) := by decide +kernel
theorem dX5_undo_12 : decode M_X5_undo.2.1 12 = .ok (.getfield 56, 3) := by decide +kernel
theorem dX5_undo_15 : decode M_X5_undo.2.1 15 = .ok (.iconst 1, 1) := by decide +kernel
theorem dX5_undo_16 : decode M_X5_undo.2.1 16 = .ok (.isub, 1) := by decide +kernel
theorem dX5_undo_17 : decode M_X5_undo.2.1 17 = .ok (.putfield 56, 3) := by decide +kernel
theorem dX5_undo_20 : decode M_X5_undo.2.1 20 = .ok (.aload_n 0, 1) := by decide +kernel
theorem dX5_undo_21 : decode M_X5_undo.2.1 21 = .ok (.getfield 45, 3) := by decide +kernel
theorem dX5_undo_24 : decode M_X5_undo.2.1 24 = .ok (.aload_n 0, 1) := by decide +kernel
theorem dX5_undo_25 : decode M_X5_undo.2.1 25 = .ok (.getfield 56, 3) := by decide +kernel
theorem dX5_undo_28 : decode M_X5_undo.2.1 28 = .ok (.aload_n 0, 1) := by decide +kernel
theorem dX5_undo_29 : decode M_X5_undo.2.1 29 = .ok (.getfield 10, 3) := by decide +kernel
theorem dX5_undo_32 : decode M_X5_undo.2.1 32 = .ok (.invokevirtual 126, 3) := by decide +kernel
theorem dX5_undo_35 : decode M_X5_undo.2.1 35 = .ok (.aload_n 0, 1) := by decide +kernel
theorem dX5_undo_36 : decode M_X5_undo.2.1 36 = .ok (.getfield 56, 3) := by decide +kernel
theorem dX5_undo_39 : decode M_X5_undo.2.1 39 = .ok (.ireturn, 1) := by decide +kernel
theorem dX5_block_0 : decode M_X5_block.2.1 0 = .ok (.aload_n 0, 1) := by decide +kernel
theorem dX5_block_1 : decode M_X5_block.2.1 1 = .ok (.getfield 10, 3) := by decide +kernel
theorem dX5_block_4 : decode M_X5_block.2.1 4 = .ok (.iload_n 1, 1) := by decide +kernel
theorem dX5_block_5 : decode M_X5_block.2.1 5 = .ok (.invokevirtual 107, 3) := by decide +kernel
theorem dX5_block_8 : decode M_X5_block.2.1 8 = .ok (.ifCond .eq 13, 3) := by decide +kernel
theorem dX5_block_11 : decode M_X5_block.2.1 11 = .ok (.iload_n 2, 1) := by decide +kernel
theorem dX5_block_12 : decode M_X5_block.2.1 12 = .ok (.iconst 0, 1) := by decide +kernel
theorem dX5_block_13 : decode M_X5_block.2.1 13 = .ok (.bipush 7, 2) := by decide +kernel
theorem dX5_block_15 : decode M_X5_block.2.1 15 = .ok (.invokestatic 60, 3) := by decide +kernel
theorem dX5_block_18 : decode M_X5_block.2.1 18 = .ok (.ifCond .ne 5, 3) := by decide +kernel
theorem dX5_block_21 : decode M_X5_block.2.1 21 = .ok (.iconst (-1), 1) := by decide +kernel
theorem dX5_block_22 : decode M_X5_block.2.1 22 = .ok (.ireturn, 1) := by decide +kernel
theorem dX5_block_23 : decode M_X5_block.2.1 23 = .ok (.iload_n 2, 1) := by decide +kernel
theorem dX5_block_24 : decode M_X5_block.2.1 24 = .ok (.iconst 5, 1) := by decide +kernel
theorem dX5_block_25 : decode M_X5_block.2.1 25 = .ok (.if_icmp .ge 13, 3) := by decide +kernel
theorem dX5_block_28 : decode M_X5_block.2.1 28 = .ok (.aload_n 0, 1) := by decide +kernel
theorem dX5_block_29 : decode M_X5_block.2.1 29 = .ok (.getfield 10, 3) := by decide +kernel
theorem dX5_block_32 : decode M_X5_block.2.1 32 = .ok (.iload_n 1, 1) := by decide +kernel
theorem dX5_block_33 : decode M_X5_block.2.1 33 = .ok (.iload_n 2, 1) := by decide +kernel
theorem dX5_block_34 : decode M_X5_block.2.1 34 = .ok (.invokevirtual 116, 3) := by decide +kernel
theorem dX5_block_37 : decode M_X5_block.2.1 37 = .ok (.ireturn, 1) := by decide +kernel
theorem dX5_block_38 : decode M_X5_block.2.1 38 = .ok (.aload_n 0, 1) := by decide +kernel
theorem dX5_block_39 : decode M_X5_block.2.1 39 = .ok (.getfield 22, 3) := by decide +kernel
theorem dX5_block_42 : decode M_X5_block.2.1 42 = .ok (.aload_n 0, 1) := by decide +kernel
theorem dX5_block_43 : decode M_X5_block.2.1 43 = .ok (.getfield 10, 3) := by decide +kernel
theorem dX5_block_46 : decode M_X5_block.2.1 46 = .ok (.invokevirtual 100, 3) := by decide +kernel
theorem dX5_block_49 : decode M_X5_block.2.1 49 = .ok (.iload_n 2, 1) := by decide +kernel
theorem dX5_block_50 : decode M_X5_block.2.1 50 = .ok (.lookupswitch 44 #[(5, 26), (6, 35)], 26) := by decide +kernel
theorem dX5_block_76 : decode M_X5_block.2.1 76 = .ok (.aload_n 0, 1) := by decide +kernel
theorem dX5_block_77 : decode M_X5_block.2.1 77 = .ok (.getfield 22, 3) := by decide +kernel
theorem dX5_block_80 : decode M_X5_block.2.1 80 = .ok (.iload_n 1, 1) := by decide +kernel
theorem dX5_block_81 : decode M_X5_block.2.1 81 = .ok (.invokevirtual 103, 3) := by decide +kernel
theorem dX5_block_84 : decode M_X5_block.2.1 84 = .ok (.ireturn, 1) := by decide +kernel
theorem dX5_block_85 : decode M_X5_block.2.1 85 = .ok (.aload_n 0, 1) := by decide +kernel
theorem dX5_block_86 : decode M_X5_block.2.1 86 = .ok (.getfield 22, 3) := by decide +kernel
theorem dX5_block_89 : decode M_X5_block.2.1 89 = .ok (.iload_n 1, 1) := by decide +kernel
theorem dX5_block_90 : decode M_X5_block.2.1 90 = .ok (.invokevirtual 130, 3) := by decide +kernel
theorem dX5_block_93 : decode M_X5_block.2.1 93 = .ok (.ireturn, 1) := by decide +kernel
theorem dX5_block_94 : decode M_X5_block.2.1 94 = .ok (.aload_n 0, 1) := by decide +kernel
theorem dX5_block_95 : decode M_X5_block.2.1 95 = .ok (.getfield 22, 3) := by decide +kernel
theorem dX5_block_98 : decode M_X5_block.2.1 98 = .ok (.iload_n 1, 1) := by decide +kernel
theorem dX5_block_99 : decode M_X5_block.2.1 99 = .ok (.invokevirtual 110, 3) := by decide +kernel
theorem dX5_block_102 : decode M_X5_block.2.1 102 = .ok (.ireturn, 1) := by decide +kernel
theorem dX5_contact_0 : decode M_X5_contact.2.1 0 = .ok (.aload_n 0, 1) := by decide +kernel
theorem dX5_contact_1 : decode M_X5_contact.2.1 1 = .ok (.getfield 22, 3) := by decide +kernel
theorem dX5_contact_4 : decode M_X5_contact.2.1 4 = .ok (.aload_n 0, 1) := by decide +kernel
theorem dX5_contact_5 : decode M_X5_contact.2.1 5 = .ok (.getfield 10, 3) := by decide +kernel
theorem dX5_contact_8 : decode M_X5_contact.2.1 8 = .ok (.invokevirtual 100, 3) := by decide +kernel
theorem dX5_contact_11 : decode M_X5_contact.2.1 11 = .ok (.iload_n 1, 1) := by decide +kernel
theorem dX5_contact_12 : decode M_X5_contact.2.1 12 = .ok (.iconst 0, 1) := by decide +kernel
theorem dX5_contact_13 : decode M_X5_contact.2.1 13 = .ok (.aload_n 0, 1) := by decide +kernel
theorem dX5_contact_14 : decode M_X5_contact.2.1 14 = .ok (.getfield 22, 3) := by decide +kernel
theorem dX5_contact_17 : decode M_X5_contact.2.1 17 = .ok (.invokevirtual 133, 3) := by decide +kernel
theorem dX5_contact_20 : decode M_X5_contact.2.1 20 = .ok (.iconst 1, 1) := by decide +kernel
theorem dX5_contact_21 : decode M_X5_contact.2.1 21 = .ok (.isub, 1) := by decide +kernel
theorem dX5_contact_22 : decode M_X5_contact.2.1 22 = .ok (.invokestatic 60, 3) := by decide +kernel
theorem dX5_contact_25 : decode M_X5_contact.2.1 25 = .ok (.ifCond .ne 5, 3) := by decide +kernel
theorem dX5_contact_28 : decode M_X5_contact.2.1 28 = .ok (.iconst (-1), 1) := by decide +kernel
theorem dX5_contact_29 : decode M_X5_contact.2.1 29 = .ok (.ireturn, 1) := by decide +kernel
theorem dX5_contact_30 : decode M_X5_contact.2.1 30 = .ok (.iload_n 2, 1) := by decide +kernel
theorem dX5_contact_31 : decode M_X5_contact.2.1 31 = .ok (.tableswitch 52 0 2 #[25, 34, 43], 25) := by decide +kernel
theorem dX5_contact_56 : decode M_X5_contact.2.1 56 = .ok (.aload_n 0, 1) := by decide +kernel
theorem dX5_contact_57 : decode M_X5_contact.2.1 57 = .ok (.getfield 22, 3) := by decide +kernel
theorem dX5_contact_60 : decode M_X5_contact.2.1 60 = .ok (.iload_n 1, 1) := by decide +kernel
theorem dX5_contact_61 : decode M_X5_contact.2.1 61 = .ok (.invokevirtual 136, 3) := by decide +kernel
theorem dX5_contact_64 : decode M_X5_contact.2.1 64 = .ok (.ireturn, 1) := by decide +kernel
theorem dX5_contact_65 : decode M_X5_contact.2.1 65 = .ok (.aload_n 0, 1) := by decide +kernel
theorem dX5_contact_66 : decode M_X5_contact.2.1 66 = .ok (.getfield 22, 3) := by decide +kernel
theorem dX5_contact_69 : decode M_X5_contact.2.1 69 = .ok (.iload_n 1, 1) := by decide +kernel
theorem dX5_contact_70 : decode M_X5_contact.2.1 70 = .ok (.invokevirtual 139, 3) := by decide +kernel
theorem dX5_contact_73 : decode M_X5_contact.2.1 73 = .ok (.ireturn, 1) := by decide +kernel
theorem dX5_contact_74 : decode M_X5_contact.2.1 74 = .ok (.aload_n 0, 1) := by decide +kernel
theorem dX5_contact_75 : decode M_X5_contact.2.1 75 = .ok (.getfield 22, 3) := by decide +kernel
theorem dX5_contact_78 : decode M_X5_contact.2.1 78 = .ok (.iload_n 1, 1) := by decide +kernel
theorem dX5_contact_79 : decode M_X5_contact.2.1 79 = .ok (.invokevirtual 142, 3) := by decide +kernel
theorem dX5_contact_82 : decode M_X5_contact.2.1 82 = .ok (.ireturn, 1) := by decide +kernel
theorem dX5_contact_83 : decode M_X5_contact.2.1 83 = .ok (.iconst (-1), 1) := by decide +kernel
theorem dX5_contact_84 : decode M_X5_contact.2.1 84 = .ok (.ireturn, 1) := by decide +kernel
theorem dX5_rests_0 : decode M_X5_rests.2.1 0 = .ok (.aload_n 0, 1) := by decide +kernel
theorem dX5_rests_1 : decode M_X5_rests.2.1 1 = .ok (.aload_n 0, 1) := by decide +kernel
theorem dX5_rests_2 : decode M_X5_rests.2.1 2 = .ok (.getfield 10, 3) := by decide +kernel
theorem dX5_rests_5 : decode M_X5_rests.2.1 5 = .ok (.iconst 0, 1) := by decide +kernel
theorem dX5_rests_6 : decode M_X5_rests.2.1 6 = .ok (.invokevirtual 145, 3) := by decide +kernel
theorem dX5_rests_9 : decode M_X5_rests.2.1 9 = .ok (.ifCond .eq 7, 3) := by decide +kernel
theorem dX5_rests_12 : decode M_X5_rests.2.1 12 = .ok (.iconst 1, 1) := by decide +kernel
theorem dX5_rests_13 : decode M_X5_rests.2.1 13 = .ok (.goto 4, 3) := by decide +kernel
theorem dX5_rests_16 : decode M_X5_rests.2.1 16 = .ok (.iconst 0, 1) := by decide +kernel
theorem dX5_rests_17 : decode M_X5_rests.2.1 17 = .ok (.ireturn, 1) := by decide +kernel
theorem dX5_bounds_0 : decode M_X5_bounds.2.1 0 = .ok (.aload_n 0, 1) := by decide +kernel
theorem dX5_bounds_1 : decode M_X5_bounds.2.1 1 = .ok (.getfield 22, 3) := by decide +kernel
theorem dX5_bounds_4 : decode M_X5_bounds.2.1 4 = .ok (.aload_n 0, 1) := by decide +kernel
theorem dX5_bounds_5 : decode M_X5_bounds.2.1 5 = .ok (.getfield 10, 3) := by decide +kernel
theorem dX5_bounds_8 : decode M_X5_bounds.2.1 8 = .ok (.invokevirtual 100, 3) := by decide +kernel
theorem dX5_bounds_11 : decode M_X5_bounds.2.1 11 = .ok (.iload_n 1, 1) := by decide +kernel
theorem dX5_bounds_12 : decode M_X5_bounds.2.1 12 = .ok (.iconst 0, 1) := by decide +kernel
theorem dX5_bounds_13 : decode M_X5_bounds.2.1 13 = .ok (.aload_n 0, 1) := by decide +kernel
theorem dX5_bounds_14 : decode M_X5_bounds.2.1 14 = .ok (.getfield 22, 3) := by decide +kernel
theorem dX5_bounds_17 : decode M_X5_bounds.2.1 17 = .ok (.invokevirtual 133, 3) := by decide +kernel
theorem dX5_bounds_20 : decode M_X5_bounds.2.1 20 = .ok (.iconst 1, 1) := by decide +kernel
theorem dX5_bounds_21 : decode M_X5_bounds.2.1 21 = .ok (.isub, 1) := by decide +kernel
theorem dX5_bounds_22 : decode M_X5_bounds.2.1 22 = .ok (.invokestatic 60, 3) := by decide +kernel
theorem dX5_bounds_25 : decode M_X5_bounds.2.1 25 = .ok (.ifCond .eq 12, 3) := by decide +kernel
theorem dX5_bounds_28 : decode M_X5_bounds.2.1 28 = .ok (.iload_n 2, 1) := by decide +kernel
theorem dX5_bounds_29 : decode M_X5_bounds.2.1 29 = .ok (.iconst 0, 1) := by decide +kernel
theorem dX5_bounds_30 : decode M_X5_bounds.2.1 30 = .ok (.iconst 3, 1) := by decide +kernel
theorem dX5_bounds_31 : decode M_X5_bounds.2.1 31 = .ok (.invokestatic 60, 3) := by decide +kernel
theorem dX5_bounds_34 : decode M_X5_bounds.2.1 34 = .ok (.ifCond .ne 7, 3) := by decide +kernel
theorem dX5_bounds_37 : decode M_X5_bounds.2.1 37 = .ok (.ldc2_w 149, 3) := by decide +kernel
theorem dX5_bounds_40 : decode M_X5_bounds.2.1 40 = .ok (.lreturn, 1) := by decide +kernel
theorem dX5_bounds_41 : decode M_X5_bounds.2.1 41 = .ok (.aload_n 0, 1) := by decide +kernel
theorem dX5_bounds_42 : decode M_X5_bounds.2.1 42 = .ok (.getfield 29, 3) := by decide +kernel
theorem dX5_bounds_45 : decode M_X5_bounds.2.1 45 = .ok (.aload_n 0, 1) := by decide +kernel
theorem dX5_bounds_46 : decode M_X5_bounds.2.1 46 = .ok (.getfield 10, 3) := by decide +kernel
theorem dX5_bounds_49 : decode M_X5_bounds.2.1 49 = .ok (.aload_n 0, 1) := by decide +kernel
theorem dX5_bounds_50 : decode M_X5_bounds.2.1 50 = .ok (.getfield 22, 3) := by decide +kernel
theorem dX5_bounds_53 : decode M_X5_bounds.2.1 53 = .ok (.iconst 0, 1) := by decide +kernel
theorem dX5_bounds_54 : decode M_X5_bounds.2.1 54 = .ok (.invokevirtual 151, 3) := by decide +kernel
theorem dX5_bounds_57 : decode M_X5_bounds.2.1 57 = .ok (.aload_n 0, 1) := by decide +kernel
theorem dX5_bounds_58 : decode M_X5_bounds.2.1 58 = .ok (.iload_n 1, 1) := by decide +kernel
theorem dX5_bounds_59 : decode M_X5_bounds.2.1 59 = .ok (.iload_n 2, 1) := by decide +kernel
theorem dX5_bounds_60 : decode M_X5_bounds.2.1 60 = .ok (.invokevirtual 155, 3) := by decide +kernel
theorem dX5_bounds_63 : decode M_X5_bounds.2.1 63 = .ok (.lreturn, 1) := by decide +kernel
theorem dX5_bears_0 : decode M_X5_bears.2.1 0 = .ok (.aload_n 0, 1) := by decide +kernel
theorem dX5_bears_1 : decode M_X5_bears.2.1 1 = .ok (.iload_n 1, 1) := by decide +kernel
theorem dX5_bears_2 : decode M_X5_bears.2.1 2 = .ok (.iload_n 2, 1) := by decide +kernel
theorem dX5_bears_3 : decode M_X5_bears.2.1 3 = .ok (.invokevirtual 123, 3) := by decide +kernel
theorem dX5_bears_6 : decode M_X5_bears.2.1 6 = .ok (.ifCond .eq 12, 3) := by decide +kernel
theorem dX5_bears_9 : decode M_X5_bears.2.1 9 = .ok (.iload_n 3, 1) := by decide +kernel
theorem dX5_bears_10 : decode M_X5_bears.2.1 10 = .ok (.iconst 0, 1) := by decide +kernel
theorem dX5_bears_11 : decode M_X5_bears.2.1 11 = .ok (.iconst 3, 1) := by decide +kernel
theorem dX5_bears_12 : decode M_X5_bears.2.1 12 = .ok (.invokestatic 60, 3) := by decide +kernel
theorem dX5_bears_15 : decode M_X5_bears.2.1 15 = .ok (.ifCond .ne 7, 3) := by decide +kernel
theorem dX5_bears_18 : decode M_X5_bears.2.1 18 = .ok (.ldc2_w 149, 3) := by decide +kernel
theorem dX5_bears_21 : decode M_X5_bears.2.1 21 = .ok (.lreturn, 1) := by decide +kernel
theorem dX5_bears_22 : decode M_X5_bears.2.1 22 = .ok (.aload_n 0, 1) := by decide +kernel
theorem dX5_bears_23 : decode M_X5_bears.2.1 23 = .ok (.getfield 22, 3) := by decide +kernel
theorem dX5_bears_26 : decode M_X5_bears.2.1 26 = .ok (.aload_n 0, 1) := by decide +kernel
theorem dX5_bears_27 : decode M_X5_bears.2.1 27 = .ok (.getfield 10, 3) := by decide +kernel
theorem dX5_bears_30 : decode M_X5_bears.2.1 30 = .ok (.invokevirtual 100, 3) := by decide +kernel
theorem dX5_bears_33 : decode M_X5_bears.2.1 33 = .ok (.aload_n 0, 1) := by decide +kernel
theorem dX5_bears_34 : decode M_X5_bears.2.1 34 = .ok (.getfield 29, 3) := by decide +kernel
theorem dX5_bears_37 : decode M_X5_bears.2.1 37 = .ok (.aload_n 0, 1) := by decide +kernel
theorem dX5_bears_38 : decode M_X5_bears.2.1 38 = .ok (.getfield 10, 3) := by decide +kernel
theorem dX5_bears_41 : decode M_X5_bears.2.1 41 = .ok (.aload_n 0, 1) := by decide +kernel
theorem dX5_bears_42 : decode M_X5_bears.2.1 42 = .ok (.getfield 22, 3) := by decide +kernel
theorem dX5_bears_45 : decode M_X5_bears.2.1 45 = .ok (.iconst 0, 1) := by decide +kernel
theorem dX5_bears_46 : decode M_X5_bears.2.1 46 = .ok (.invokevirtual 151, 3) := by decide +kernel
theorem dX5_bears_49 : decode M_X5_bears.2.1 49 = .ok (.aload_n 0, 1) := by decide +kernel
theorem dX5_bears_50 : decode M_X5_bears.2.1 50 = .ok (.aload_n 0, 1) := by decide +kernel
theorem dX5_bears_51 : decode M_X5_bears.2.1 51 = .ok (.getfield 29, 3) := by decide +kernel
theorem dX5_bears_54 : decode M_X5_bears.2.1 54 = .ok (.iload_n 1, 1) := by decide +kernel
theorem dX5_bears_55 : decode M_X5_bears.2.1 55 = .ok (.iload_n 2, 1) := by decide +kernel
theorem dX5_bears_56 : decode M_X5_bears.2.1 56 = .ok (.invokevirtual 159, 3) := by decide +kernel
theorem dX5_bears_59 : decode M_X5_bears.2.1 59 = .ok (.iload_n 3, 1) := by decide +kernel
theorem dX5_bears_60 : decode M_X5_bears.2.1 60 = .ok (.invokevirtual 155, 3) := by decide +kernel
theorem dX5_bears_63 : decode M_X5_bears.2.1 63 = .ok (.lreturn, 1) := by decide +kernel
theorem dX5_where_0 : decode M_X5_where.2.1 0 = .ok (.iload_n 1, 1) := by decide +kernel
theorem dX5_where_1 : decode M_X5_where.2.1 1 = .ok (.iload_n 2, 1) := by decide +kernel
theorem dX5_where_2 : decode M_X5_where.2.1 2 = .ok (.invokestatic 89, 3) := by decide +kernel
theorem dX5_where_5 : decode M_X5_where.2.1 5 = .ok (.ifCond .ne 5, 3) := by decide +kernel
theorem dX5_where_8 : decode M_X5_where.2.1 8 = .ok (.iconst (-1), 1) := by decide +kernel
theorem dX5_where_9 : decode M_X5_where.2.1 9 = .ok (.ireturn, 1) := by decide +kernel
theorem dX5_where_10 : decode M_X5_where.2.1 10 = .ok (.aload_n 0, 1) := by decide +kernel
theorem dX5_where_11 : decode M_X5_where.2.1 11 = .ok (.getfield 10, 3) := by decide +kernel
theorem dX5_where_14 : decode M_X5_where.2.1 14 = .ok (.invokevirtual 93, 3) := by decide +kernel
theorem dX5_where_17 : decode M_X5_where.2.1 17 = .ok (.iconst 4, 1) := by decide +kernel
theorem dX5_where_18 : decode M_X5_where.2.1 18 = .ok (.if_icmp .lt 6, 3) := by decide +kernel
theorem dX5_where_21 : decode M_X5_where.2.1 21 = .ok (.bipush (-3), 2) := by decide +kernel
theorem dX5_where_23 : decode M_X5_where.2.1 23 = .ok (.ireturn, 1) := by decide +kernel
theorem dX5_where_24 : decode M_X5_where.2.1 24 = .ok (.iconst 0, 1) := by decide +kernel
theorem dX5_where_25 : decode M_X5_where.2.1 25 = .ok (.istore_n 3, 1) := by decide +kernel
theorem dX5_where_26 : decode M_X5_where.2.1 26 = .ok (.iconst 0, 1) := by decide +kernel
theorem dX5_where_27 : decode M_X5_where.2.1 27 = .ok (.istore 4, 2) := by decide +kernel
theorem dX5_where_29 : decode M_X5_where.2.1 29 = .ok (.iload 4, 2) := by decide +kernel
theorem dX5_where_31 : decode M_X5_where.2.1 31 = .ok (.bipush 9, 2) := by decide +kernel
theorem dX5_where_33 : decode M_X5_where.2.1 33 = .ok (.if_icmp .gt 50, 3) := by decide +kernel
theorem dX5_where_36 : decode M_X5_where.2.1 36 = .ok (.aload_n 0, 1) := by decide +kernel
theorem dX5_where_37 : decode M_X5_where.2.1 37 = .ok (.getfield 16, 3) := by decide +kernel
theorem dX5_where_40 : decode M_X5_where.2.1 40 = .ok (.aload_n 0, 1) := by decide +kernel
theorem dX5_where_41 : decode M_X5_where.2.1 41 = .ok (.getfield 10, 3) := by decide +kernel
theorem dX5_where_44 : decode M_X5_where.2.1 44 = .ok (.invokevirtual 85, 3) := by decide +kernel
theorem dX5_where_47 : decode M_X5_where.2.1 47 = .ok (.aload_n 0, 1) := by decide +kernel
theorem dX5_where_48 : decode M_X5_where.2.1 48 = .ok (.getfield 16, 3) := by decide +kernel
theorem dX5_where_51 : decode M_X5_where.2.1 51 = .ok (.iload 4, 2) := by decide +kernel
theorem dX5_where_53 : decode M_X5_where.2.1 53 = .ok (.iload_n 1, 1) := by decide +kernel
theorem dX5_where_54 : decode M_X5_where.2.1 54 = .ok (.iload_n 2, 1) := by decide +kernel
theorem dX5_where_55 : decode M_X5_where.2.1 55 = .ok (.invokevirtual 96, 3) := by decide +kernel
theorem dX5_where_58 : decode M_X5_where.2.1 58 = .ok (.aload_n 0, 1) := by decide +kernel
theorem dX5_where_59 : decode M_X5_where.2.1 59 = .ok (.aload_n 0, 1) := by decide +kernel
theorem dX5_where_60 : decode M_X5_where.2.1 60 = .ok (.getfield 16, 3) := by decide +kernel
theorem dX5_where_63 : decode M_X5_where.2.1 63 = .ok (.iconst 0, 1) := by decide +kernel
theorem dX5_where_64 : decode M_X5_where.2.1 64 = .ok (.invokevirtual 145, 3) := by decide +kernel
theorem dX5_where_67 : decode M_X5_where.2.1 67 = .ok (.ifCond .eq 10, 3) := by decide +kernel
theorem dX5_where_70 : decode M_X5_where.2.1 70 = .ok (.iload_n 3, 1) := by decide +kernel
theorem dX5_where_71 : decode M_X5_where.2.1 71 = .ok (.iconst 1, 1) := by decide +kernel
theorem dX5_where_72 : decode M_X5_where.2.1 72 = .ok (.iload 4, 2) := by decide +kernel
theorem dX5_where_74 : decode M_X5_where.2.1 74 = .ok (.ishl, 1) := by decide +kernel
theorem dX5_where_75 : decode M_X5_where.2.1 75 = .ok (.ior, 1) := by decide +kernel
theorem dX5_where_76 : decode M_X5_where.2.1 76 = .ok (.istore_n 3, 1) := by decide +kernel
theorem dX5_where_77 : decode M_X5_where.2.1 77 = .ok (.iinc 4 1, 3) := by decide +kernel
theorem dX5_where_80 : decode M_X5_where.2.1 80 = .ok (.goto (-51), 3) := by decide +kernel
theorem dX5_where_83 : decode M_X5_where.2.1 83 = .ok (.iload_n 3, 1) := by decide +kernel
theorem dX5_where_84 : decode M_X5_where.2.1 84 = .ok (.ireturn, 1) := by decide +kernel
theorem dX5_weights_0 : decode M_X5_weights.2.1 0 = .ok (.aload_n 0, 1) := by decide +kernel
theorem dX5_weights_1 : decode M_X5_weights.2.1 1 = .ok (.getfield 10, 3) := by decide +kernel
theorem dX5_weights_4 : decode M_X5_weights.2.1 4 = .ok (.iload_n 1, 1) := by decide +kernel
theorem dX5_weights_5 : decode M_X5_weights.2.1 5 = .ok (.invokevirtual 107, 3) := by decide +kernel
theorem dX5_weights_8 : decode M_X5_weights.2.1 8 = .ok (.ifCond .ne 5, 3) := by decide +kernel
theorem dX5_weights_11 : decode M_X5_weights.2.1 11 = .ok (.iconst (-1), 1) := by decide +kernel
theorem dX5_weights_12 : decode M_X5_weights.2.1 12 = .ok (.ireturn, 1) := by decide +kernel
theorem dX5_weights_13 : decode M_X5_weights.2.1 13 = .ok (.iconst 0, 1) := by decide +kernel
theorem dX5_weights_14 : decode M_X5_weights.2.1 14 = .ok (.istore_n 2, 1) := by decide +kernel
theorem dX5_weights_15 : decode M_X5_weights.2.1 15 = .ok (.aload_n 0, 1) := by decide +kernel
theorem dX5_weights_16 : decode M_X5_weights.2.1 16 = .ok (.getfield 16, 3) := by decide +kernel
theorem dX5_weights_19 : decode M_X5_weights.2.1 19 = .ok (.aload_n 0, 1) := by decide +kernel
theorem dX5_weights_20 : decode M_X5_weights.2.1 20 = .ok (.getfield 10, 3) := by decide +kernel
theorem dX5_weights_23 : decode M_X5_weights.2.1 23 = .ok (.invokevirtual 85, 3) := by decide +kernel
theorem dX5_weights_26 : decode M_X5_weights.2.1 26 = .ok (.iconst 1, 1) := by decide +kernel
theorem dX5_weights_27 : decode M_X5_weights.2.1 27 = .ok (.istore_n 3, 1) := by decide +kernel
theorem dX5_weights_28 : decode M_X5_weights.2.1 28 = .ok (.iload_n 3, 1) := by decide +kernel
theorem dX5_weights_29 : decode M_X5_weights.2.1 29 = .ok (.bipush 9, 2) := by decide +kernel
theorem dX5_weights_31 : decode M_X5_weights.2.1 31 = .ok (.if_icmp .gt 37, 3) := by decide +kernel
theorem dX5_weights_34 : decode M_X5_weights.2.1 34 = .ok (.aload_n 0, 1) := by decide +kernel
theorem dX5_weights_35 : decode M_X5_weights.2.1 35 = .ok (.getfield 16, 3) := by decide +kernel
theorem dX5_weights_38 : decode M_X5_weights.2.1 38 = .ok (.iload_n 1, 1) := by decide +kernel
theorem dX5_weights_39 : decode M_X5_weights.2.1 39 = .ok (.iconst 2, 1) := by decide +kernel
theorem dX5_weights_40 : decode M_X5_weights.2.1 40 = .ok (.iload_n 3, 1) := by decide +kernel
theorem dX5_weights_41 : decode M_X5_weights.2.1 41 = .ok (.invokevirtual 120, 3) := by decide +kernel
theorem dX5_weights_44 : decode M_X5_weights.2.1 44 = .ok (.aload_n 0, 1) := by decide +kernel
theorem dX5_weights_45 : decode M_X5_weights.2.1 45 = .ok (.aload_n 0, 1) := by decide +kernel
theorem dX5_weights_46 : decode M_X5_weights.2.1 46 = .ok (.getfield 16, 3) := by decide +kernel
theorem dX5_weights_49 : decode M_X5_weights.2.1 49 = .ok (.iconst 0, 1) := by decide +kernel
theorem dX5_weights_50 : decode M_X5_weights.2.1 50 = .ok (.invokevirtual 145, 3) := by decide +kernel
theorem dX5_weights_53 : decode M_X5_weights.2.1 53 = .ok (.ifCond .eq 9, 3) := by decide +kernel
theorem dX5_weights_56 : decode M_X5_weights.2.1 56 = .ok (.iload_n 2, 1) := by decide +kernel
theorem dX5_weights_57 : decode M_X5_weights.2.1 57 = .ok (.iconst 1, 1) := by decide +kernel
theorem dX5_weights_58 : decode M_X5_weights.2.1 58 = .ok (.iload_n 3, 1) := by decide +kernel
theorem dX5_weights_59 : decode M_X5_weights.2.1 59 = .ok (.ishl, 1) := by decide +kernel
theorem dX5_weights_60 : decode M_X5_weights.2.1 60 = .ok (.ior, 1) := by decide +kernel
theorem dX5_weights_61 : decode M_X5_weights.2.1 61 = .ok (.istore_n 2, 1) := by decide +kernel
theorem dX5_weights_62 : decode M_X5_weights.2.1 62 = .ok (.iinc 3 1, 3) := by decide +kernel
theorem dX5_weights_65 : decode M_X5_weights.2.1 65 = .ok (.goto (-37), 3) := by decide +kernel
theorem dX5_weights_68 : decode M_X5_weights.2.1 68 = .ok (.iload_n 2, 1) := by decide +kernel
theorem dX5_weights_69 : decode M_X5_weights.2.1 69 = .ok (.ireturn, 1) := by decide +kernel
theorem dX5_key_0 : decode M_X5_key.2.1 0 = .ok (.aload_n 0, 1) := by decide +kernel
theorem dX5_key_1 : decode M_X5_key.2.1 1 = .ok (.aload_n 0, 1) := by decide +kernel
theorem dX5_key_2 : decode M_X5_key.2.1 2 = .ok (.getfield 10, 3) := by decide +kernel
theorem dX5_key_5 : decode M_X5_key.2.1 5 = .ok (.iconst 0, 1) := by decide +kernel
theorem dX5_key_6 : decode M_X5_key.2.1 6 = .ok (.invokevirtual 145, 3) := by decide +kernel
theorem dX5_key_9 : decode M_X5_key.2.1 9 = .ok (.ifCond .ne 6, 3) := by decide +kernel
theorem dX5_key_12 : decode M_X5_key.2.1 12 = .ok (.bipush (-9), 2) := by decide +kernel
theorem dX5_key_14 : decode M_X5_key.2.1 14 = .ok (.ireturn, 1) := by decide +kernel
theorem dX5_key_15 : decode M_X5_key.2.1 15 = .ok (.iconst 0, 1) := by decide +kernel
theorem dX5_key_16 : decode M_X5_key.2.1 16 = .ok (.istore_n 1, 1) := by decide +kernel
theorem dX5_key_17 : decode M_X5_key.2.1 17 = .ok (.iload_n 1, 1) := by decide +kernel
theorem dX5_key_18 : decode M_X5_key.2.1 18 = .ok (.aload_n 0, 1) := by decide +kernel
theorem dX5_key_19 : decode M_X5_key.2.1 19 = .ok (.getfield 10, 3) := by decide +kernel
theorem dX5_key_22 : decode M_X5_key.2.1 22 = .ok (.invokevirtual 93, 3) := by decide +kernel
theorem dX5_key_25 : decode M_X5_key.2.1 25 = .ok (.if_icmp .ge 41, 3) := by decide +kernel
theorem dX5_key_28 : decode M_X5_key.2.1 28 = .ok (.aload_n 0, 1) := by decide +kernel
theorem dX5_key_29 : decode M_X5_key.2.1 29 = .ok (.getfield 22, 3) := by decide +kernel
theorem dX5_key_32 : decode M_X5_key.2.1 32 = .ok (.aload_n 0, 1) := by decide +kernel
theorem dX5_key_33 : decode M_X5_key.2.1 33 = .ok (.getfield 10, 3) := by decide +kernel
theorem dX5_key_36 : decode M_X5_key.2.1 36 = .ok (.invokevirtual 100, 3) := by decide +kernel
theorem dX5_key_39 : decode M_X5_key.2.1 39 = .ok (.aload_n 0, 1) := by decide +kernel
theorem dX5_key_40 : decode M_X5_key.2.1 40 = .ok (.getfield 22, 3) := by decide +kernel
theorem dX5_key_43 : decode M_X5_key.2.1 43 = .ok (.iload_n 1, 1) := by decide +kernel
theorem dX5_key_44 : decode M_X5_key.2.1 44 = .ok (.invokevirtual 110, 3) := by decide +kernel
theorem dX5_key_47 : decode M_X5_key.2.1 47 = .ok (.ifCond .ne 13, 3) := by decide +kernel
theorem dX5_key_50 : decode M_X5_key.2.1 50 = .ok (.aload_n 0, 1) := by decide +kernel
theorem dX5_key_51 : decode M_X5_key.2.1 51 = .ok (.iload_n 1, 1) := by decide +kernel
theorem dX5_key_52 : decode M_X5_key.2.1 52 = .ok (.invokevirtual 162, 3) := by decide +kernel
theorem dX5_key_55 : decode M_X5_key.2.1 55 = .ok (.ifCond .ne 5, 3) := by decide +kernel
theorem dX5_key_58 : decode M_X5_key.2.1 58 = .ok (.iload_n 1, 1) := by decide +kernel
theorem dX5_key_59 : decode M_X5_key.2.1 59 = .ok (.ireturn, 1) := by decide +kernel
theorem dX5_key_60 : decode M_X5_key.2.1 60 = .ok (.iinc 1 1, 3) := by decide +kernel
theorem dX5_key_63 : decode M_X5_key.2.1 63 = .ok (.goto (-46), 3) := by decide +kernel
theorem dX5_key_66 : decode M_X5_key.2.1 66 = .ok (.bipush (-9), 2) := by decide +kernel
theorem dX5_key_68 : decode M_X5_key.2.1 68 = .ok (.ireturn, 1) := by decide +kernel
theorem dX5_hold_0 : decode M_X5_hold.2.1 0 = .ok (.aload_n 0, 1) := by decide +kernel
theorem dX5_hold_1 : decode M_X5_hold.2.1 1 = .ok (.getfield 10, 3) := by decide +kernel
theorem dX5_hold_4 : decode M_X5_hold.2.1 4 = .ok (.invokevirtual 93, 3) := by decide +kernel
theorem dX5_hold_7 : decode M_X5_hold.2.1 7 = .ok (.istore_n 1, 1) := by decide +kernel
theorem dX5_hold_8 : decode M_X5_hold.2.1 8 = .ok (.iconst 0, 1) := by decide +kernel
theorem dX5_hold_9 : decode M_X5_hold.2.1 9 = .ok (.istore_n 2, 1) := by decide +kernel
theorem dX5_hold_10 : decode M_X5_hold.2.1 10 = .ok (.iload_n 2, 1) := by decide +kernel
theorem dX5_hold_11 : decode M_X5_hold.2.1 11 = .ok (.iload_n 1, 1) := by decide +kernel
theorem dX5_hold_12 : decode M_X5_hold.2.1 12 = .ok (.if_icmp .ge 46, 3) := by decide +kernel
theorem dX5_hold_15 : decode M_X5_hold.2.1 15 = .ok (.iconst 0, 1) := by decide +kernel
theorem dX5_hold_16 : decode M_X5_hold.2.1 16 = .ok (.istore_n 3, 1) := by decide +kernel
theorem dX5_hold_17 : decode M_X5_hold.2.1 17 = .ok (.iload_n 3, 1) := by decide +kernel
theorem dX5_hold_18 : decode M_X5_hold.2.1 18 = .ok (.iconst 1, 1) := by decide +kernel
theorem dX5_hold_19 : decode M_X5_hold.2.1 19 = .ok (.iload_n 1, 1) := by decide +kernel
theorem dX5_hold_20 : decode M_X5_hold.2.1 20 = .ok (.ishl, 1) := by decide +kernel
theorem dX5_hold_21 : decode M_X5_hold.2.1 21 = .ok (.if_icmp .ge 31, 3) := by decide +kernel
theorem dX5_hold_24 : decode M_X5_hold.2.1 24 = .ok (.iload_n 3, 1) := by decide +kernel
theorem dX5_hold_25 : decode M_X5_hold.2.1 25 = .ok (.invokestatic 165, 3) := by decide +kernel
theorem dX5_hold_28 : decode M_X5_hold.2.1 28 = .ok (.iload_n 2, 1) := by decide +kernel
theorem dX5_hold_29 : decode M_X5_hold.2.1 29 = .ok (.if_icmp .ne 17, 3) := by decide +kernel
theorem dX5_hold_32 : decode M_X5_hold.2.1 32 = .ok (.aload_n 0, 1) := by decide +kernel
theorem dX5_hold_33 : decode M_X5_hold.2.1 33 = .ok (.aload_n 0, 1) := by decide +kernel
theorem dX5_hold_34 : decode M_X5_hold.2.1 34 = .ok (.getfield 10, 3) := by decide +kernel
theorem dX5_hold_37 : decode M_X5_hold.2.1 37 = .ok (.iload_n 3, 1) := by decide +kernel
theorem dX5_hold_38 : decode M_X5_hold.2.1 38 = .ok (.invokevirtual 145, 3) := by decide +kernel
theorem dX5_hold_41 : decode M_X5_hold.2.1 41 = .ok (.ifCond .eq 5, 3) := by decide +kernel
theorem dX5_hold_44 : decode M_X5_hold.2.1 44 = .ok (.iload_n 3, 1) := by decide +kernel
theorem dX5_hold_45 : decode M_X5_hold.2.1 45 = .ok (.ireturn, 1) := by decide +kernel
theorem dX5_hold_46 : decode M_X5_hold.2.1 46 = .ok (.iinc 3 1, 3) := by decide +kernel
theorem dX5_hold_49 : decode M_X5_hold.2.1 49 = .ok (.goto (-32), 3) := by decide +kernel
theorem dX5_hold_52 : decode M_X5_hold.2.1 52 = .ok (.iinc 2 1, 3) := by decide +kernel
theorem dX5_hold_55 : decode M_X5_hold.2.1 55 = .ok (.goto (-45), 3) := by decide +kernel
theorem dX5_hold_58 : decode M_X5_hold.2.1 58 = .ok (.iconst 1, 1) := by decide +kernel
theorem dX5_hold_59 : decode M_X5_hold.2.1 59 = .ok (.iload_n 1, 1) := by decide +kernel
theorem dX5_hold_60 : decode M_X5_hold.2.1 60 = .ok (.ishl, 1) := by decide +kernel
theorem dX5_hold_61 : decode M_X5_hold.2.1 61 = .ok (.iconst 1, 1) := by decide +kernel
theorem dX5_hold_62 : decode M_X5_hold.2.1 62 = .ok (.isub, 1) := by decide +kernel
theorem dX5_hold_63 : decode M_X5_hold.2.1 63 = .ok (.ireturn, 1) := by decide +kernel
theorem dX5_keep_0 : decode M_X5_keep.2.1 0 = .ok (.iload_n 1, 1) := by decide +kernel
theorem dX5_keep_1 : decode M_X5_keep.2.1 1 = .ok (.iconst 0, 1) := by decide +kernel
theorem dX5_keep_2 : decode M_X5_keep.2.1 2 = .ok (.iconst 1, 1) := by decide +kernel
theorem dX5_keep_3 : decode M_X5_keep.2.1 3 = .ok (.invokestatic 60, 3) := by decide +kernel
theorem dX5_keep_6 : decode M_X5_keep.2.1 6 = .ok (.ifCond .ne 5, 3) := by decide +kernel
theorem dX5_keep_9 : decode M_X5_keep.2.1 9 = .ok (.iconst (-1), 1) := by decide +kernel
theorem dX5_keep_10 : decode M_X5_keep.2.1 10 = .ok (.ireturn, 1) := by decide +kernel
theorem dX5_keep_11 : decode M_X5_keep.2.1 11 = .ok (.aload_n 0, 1) := by decide +kernel
theorem dX5_keep_12 : decode M_X5_keep.2.1 12 = .ok (.getfield 49, 3) := by decide +kernel
theorem dX5_keep_15 : decode M_X5_keep.2.1 15 = .ok (.iload_n 1, 1) := by decide +kernel
theorem dX5_keep_16 : decode M_X5_keep.2.1 16 = .ok (.aload_n 0, 1) := by decide +kernel
theorem dX5_keep_17 : decode M_X5_keep.2.1 17 = .ok (.getfield 10, 3) := by decide +kernel
theorem dX5_keep_20 : decode M_X5_keep.2.1 20 = .ok (.invokevirtual 170, 3) := by decide +kernel
theorem dX5_keep_23 : decode M_X5_keep.2.1 23 = .ok (.aload_n 0, 1) := by decide +kernel
theorem dX5_keep_24 : decode M_X5_keep.2.1 24 = .ok (.getfield 52, 3) := by decide +kernel
theorem dX5_keep_27 : decode M_X5_keep.2.1 27 = .ok (.iload_n 1, 1) := by decide +kernel
theorem dX5_keep_28 : decode M_X5_keep.2.1 28 = .ok (.iconst 1, 1) := by decide +kernel
theorem dX5_keep_29 : decode M_X5_keep.2.1 29 = .ok (.bastore, 1) := by decide +kernel
theorem dX5_keep_30 : decode M_X5_keep.2.1 30 = .ok (.aload_n 0, 1) := by decide +kernel
theorem dX5_keep_31 : decode M_X5_keep.2.1 31 = .ok (.getfield 10, 3) := by decide +kernel
theorem dX5_keep_34 : decode M_X5_keep.2.1 34 = .ok (.invokevirtual 93, 3) := by decide +kernel
theorem dX5_keep_37 : decode M_X5_keep.2.1 37 = .ok (.ireturn, 1) := by decide +kernel
theorem dX5_back_0 : decode M_X5_back.2.1 0 = .ok (.iload_n 1, 1) := by decide +kernel
theorem dX5_back_1 : decode M_X5_back.2.1 1 = .ok (.iconst 0, 1) := by decide +kernel
theorem dX5_back_2 : decode M_X5_back.2.1 2 = .ok (.iconst 1, 1) := by decide +kernel
theorem dX5_back_3 : decode M_X5_back.2.1 3 = .ok (.invokestatic 60, 3) := by decide +kernel
theorem dX5_back_6 : decode M_X5_back.2.1 6 = .ok (.ifCond .ne 5, 3) := by decide +kernel
theorem dX5_back_9 : decode M_X5_back.2.1 9 = .ok (.iconst (-1), 1) := by decide +kernel
theorem dX5_back_10 : decode M_X5_back.2.1 10 = .ok (.ireturn, 1) := by decide +kernel
theorem dX5_back_11 : decode M_X5_back.2.1 11 = .ok (.aload_n 0, 1) := by decide +kernel
theorem dX5_back_12 : decode M_X5_back.2.1 12 = .ok (.getfield 52, 3) := by decide +kernel
theorem dX5_back_15 : decode M_X5_back.2.1 15 = .ok (.iload_n 1, 1) := by decide +kernel
theorem dX5_back_16 : decode M_X5_back.2.1 16 = .ok (.baload, 1) := by decide +kernel
theorem dX5_back_17 : decode M_X5_back.2.1 17 = .ok (.ifCond .ne 6, 3) := by decide +kernel
theorem dX5_back_20 : decode M_X5_back.2.1 20 = .ok (.bipush (-2), 2) := by decide +kernel
theorem dX5_back_22 : decode M_X5_back.2.1 22 = .ok (.ireturn, 1) := by decide +kernel
theorem dX5_back_23 : decode M_X5_back.2.1 23 = .ok (.aload_n 0, 1) := by decide +kernel
theorem dX5_back_24 : decode M_X5_back.2.1 24 = .ok (.getfield 49, 3) := by decide +kernel
theorem dX5_back_27 : decode M_X5_back.2.1 27 = .ok (.iload_n 1, 1) := by decide +kernel
theorem dX5_back_28 : decode M_X5_back.2.1 28 = .ok (.aload_n 0, 1) := by decide +kernel
theorem dX5_back_29 : decode M_X5_back.2.1 29 = .ok (.getfield 10, 3) := by decide +kernel
theorem dX5_back_32 : decode M_X5_back.2.1 32 = .ok (.invokevirtual 126, 3) := by decide +kernel
theorem dX5_back_35 : decode M_X5_back.2.1 35 = .ok (.aload_n 0, 1) := by decide +kernel
theorem dX5_back_36 : decode M_X5_back.2.1 36 = .ok (.iconst 0, 1) := by decide +kernel
theorem dX5_back_37 : decode M_X5_back.2.1 37 = .ok (.putfield 56, 3) := by decide +kernel
theorem dX5_back_40 : decode M_X5_back.2.1 40 = .ok (.aload_n 0, 1) := by decide +kernel
theorem dX5_back_41 : decode M_X5_back.2.1 41 = .ok (.getfield 10, 3) := by decide +kernel
theorem dX5_back_44 : decode M_X5_back.2.1 44 = .ok (.invokevirtual 93, 3) := by decide +kernel
theorem dX5_back_47 : decode M_X5_back.2.1 47 = .ok (.ireturn, 1) := by decide +kernel
theorem dX5_count_0 : decode M_X5_count.2.1 0 = .ok (.iload_n 1, 1) := by decide +kernel
theorem dX5_count_1 : decode M_X5_count.2.1 1 = .ok (.tableswitch 106 0 5 #[39, 47, 66, 74, 93, 101], 39) := by decide +kernel
theorem dX5_count_40 : decode M_X5_count.2.1 40 = .ok (.aload_n 0, 1) := by decide +kernel
theorem dX5_count_41 : decode M_X5_count.2.1 41 = .ok (.getfield 10, 3) := by decide +kernel
theorem dX5_count_44 : decode M_X5_count.2.1 44 = .ok (.invokevirtual 93, 3) := by decide +kernel
theorem dX5_count_47 : decode M_X5_count.2.1 47 = .ok (.ireturn, 1) := by decide +kernel
theorem dX5_count_48 : decode M_X5_count.2.1 48 = .ok (.aload_n 0, 1) := by decide +kernel
theorem dX5_count_49 : decode M_X5_count.2.1 49 = .ok (.getfield 22, 3) := by decide +kernel
theorem dX5_count_52 : decode M_X5_count.2.1 52 = .ok (.aload_n 0, 1) := by decide +kernel
theorem dX5_count_53 : decode M_X5_count.2.1 53 = .ok (.getfield 10, 3) := by decide +kernel
theorem dX5_count_56 : decode M_X5_count.2.1 56 = .ok (.invokevirtual 100, 3) := by decide +kernel
theorem dX5_count_59 : decode M_X5_count.2.1 59 = .ok (.aload_n 0, 1) := by decide +kernel
theorem dX5_count_60 : decode M_X5_count.2.1 60 = .ok (.getfield 22, 3) := by decide +kernel
theorem dX5_count_63 : decode M_X5_count.2.1 63 = .ok (.invokevirtual 133, 3) := by decide +kernel
theorem dX5_count_66 : decode M_X5_count.2.1 66 = .ok (.ireturn, 1) := by decide +kernel
theorem dX5_count_67 : decode M_X5_count.2.1 67 = .ok (.aload_n 0, 1) := by decide +kernel
theorem dX5_count_68 : decode M_X5_count.2.1 68 = .ok (.getfield 10, 3) := by decide +kernel
theorem dX5_count_71 : decode M_X5_count.2.1 71 = .ok (.invokevirtual 173, 3) := by decide +kernel
theorem dX5_count_74 : decode M_X5_count.2.1 74 = .ok (.ireturn, 1) := by decide +kernel
theorem dX5_count_75 : decode M_X5_count.2.1 75 = .ok (.aload_n 0, 1) := by decide +kernel
theorem dX5_count_76 : decode M_X5_count.2.1 76 = .ok (.getfield 22, 3) := by decide +kernel
theorem dX5_count_79 : decode M_X5_count.2.1 79 = .ok (.aload_n 0, 1) := by decide +kernel
theorem dX5_count_80 : decode M_X5_count.2.1 80 = .ok (.getfield 10, 3) := by decide +kernel
theorem dX5_count_83 : decode M_X5_count.2.1 83 = .ok (.invokevirtual 100, 3) := by decide +kernel
theorem dX5_count_86 : decode M_X5_count.2.1 86 = .ok (.aload_n 0, 1) := by decide +kernel
theorem dX5_count_87 : decode M_X5_count.2.1 87 = .ok (.getfield 22, 3) := by decide +kernel
theorem dX5_count_90 : decode M_X5_count.2.1 90 = .ok (.invokevirtual 176, 3) := by decide +kernel
theorem dX5_count_93 : decode M_X5_count.2.1 93 = .ok (.ireturn, 1) := by decide +kernel
theorem dX5_count_94 : decode M_X5_count.2.1 94 = .ok (.aload_n 0, 1) := by decide +kernel
theorem dX5_count_95 : decode M_X5_count.2.1 95 = .ok (.getfield 36, 3) := by decide +kernel
theorem dX5_count_98 : decode M_X5_count.2.1 98 = .ok (.invokevirtual 68, 3) := by decide +kernel
theorem dX5_count_101 : decode M_X5_count.2.1 101 = .ok (.ireturn, 1) := by decide +kernel
theorem dX5_count_102 : decode M_X5_count.2.1 102 = .ok (.aload_n 0, 1) := by decide +kernel
theorem dX5_count_103 : decode M_X5_count.2.1 103 = .ok (.getfield 56, 3) := by decide +kernel
theorem dX5_count_106 : decode M_X5_count.2.1 106 = .ok (.ireturn, 1) := by decide +kernel
theorem dX5_count_107 : decode M_X5_count.2.1 107 = .ok (.iconst (-1), 1) := by decide +kernel
theorem dX5_count_108 : decode M_X5_count.2.1 108 = .ok (.ireturn, 1) := by decide +kernel
theorem dX5_within_0 : decode M_X5_within.2.1 0 = .ok (.iload_n 0, 1) := by decide +kernel
theorem dX5_within_1 : decode M_X5_within.2.1 1 = .ok (.iload_n 1, 1) := by decide +kernel
theorem dX5_within_2 : decode M_X5_within.2.1 2 = .ok (.if_icmp .lt 12, 3) := by decide +kernel
theorem dX5_within_5 : decode M_X5_within.2.1 5 = .ok (.iload_n 0, 1) := by decide +kernel
theorem dX5_within_6 : decode M_X5_within.2.1 6 = .ok (.iload_n 2, 1) := by decide +kernel
theorem dX5_within_7 : decode M_X5_within.2.1 7 = .ok (.if_icmp .gt 7, 3) := by decide +kernel
theorem dX5_within_10 : decode M_X5_within.2.1 10 = .ok (.iconst 1, 1) := by decide +kernel
theorem dX5_within_11 : decode M_X5_within.2.1 11 = .ok (.goto 4, 3) := by decide +kernel
theorem dX5_within_14 : decode M_X5_within.2.1 14 = .ok (.iconst 0, 1) := by decide +kernel
theorem dX5_within_15 : decode M_X5_within.2.1 15 = .ok (.ireturn, 1) := by decide +kernel
theorem dX5_isBlock_0 : decode M_X5_isBlock.2.1 0 = .ok (.iload_n 0, 1) := by decide +kernel
theorem dX5_isBlock_1 : decode M_X5_isBlock.2.1 1 = .ok (.iconst 1, 1) := by decide +kernel
theorem dX5_isBlock_2 : decode M_X5_isBlock.2.1 2 = .ok (.iconst 3, 1) := by decide +kernel
theorem dX5_isBlock_3 : decode M_X5_isBlock.2.1 3 = .ok (.invokestatic 60, 3) := by decide +kernel
theorem dX5_isBlock_6 : decode M_X5_isBlock.2.1 6 = .ok (.ifCond .eq 17, 3) := by decide +kernel
theorem dX5_isBlock_9 : decode M_X5_isBlock.2.1 9 = .ok (.iload_n 1, 1) := by decide +kernel
theorem dX5_isBlock_10 : decode M_X5_isBlock.2.1 10 = .ok (.iconst 1, 1) := by decide +kernel
theorem dX5_isBlock_11 : decode M_X5_isBlock.2.1 11 = .ok (.bipush 9, 2) := by decide +kernel
theorem dX5_isBlock_13 : decode M_X5_isBlock.2.1 13 = .ok (.invokestatic 60, 3) := by decide +kernel
theorem dX5_isBlock_16 : decode M_X5_isBlock.2.1 16 = .ok (.ifCond .eq 7, 3) := by decide +kernel
theorem dX5_isBlock_19 : decode M_X5_isBlock.2.1 19 = .ok (.iconst 1, 1) := by decide +kernel
theorem dX5_isBlock_20 : decode M_X5_isBlock.2.1 20 = .ok (.goto 4, 3) := by decide +kernel
theorem dX5_isBlock_23 : decode M_X5_isBlock.2.1 23 = .ok (.iconst 0, 1) := by decide +kernel
theorem dX5_isBlock_24 : decode M_X5_isBlock.2.1 24 = .ok (.ireturn, 1) := by decide +kernel
theorem dX5_isSpot_0 : decode M_X5_isSpot.2.1 0 = .ok (.aload_n 0, 1) := by decide +kernel
theorem dX5_isSpot_1 : decode M_X5_isSpot.2.1 1 = .ok (.getfield 10, 3) := by decide +kernel
theorem dX5_isSpot_4 : decode M_X5_isSpot.2.1 4 = .ok (.iload_n 1, 1) := by decide +kernel
theorem dX5_isSpot_5 : decode M_X5_isSpot.2.1 5 = .ok (.invokevirtual 107, 3) := by decide +kernel
theorem dX5_isSpot_8 : decode M_X5_isSpot.2.1 8 = .ok (.ifCond .eq 26, 3) := by decide +kernel
theorem dX5_isSpot_11 : decode M_X5_isSpot.2.1 11 = .ok (.iload_n 2, 1) := by decide +kernel
theorem dX5_isSpot_12 : decode M_X5_isSpot.2.1 12 = .ok (.iconst 0, 1) := by decide +kernel
theorem dX5_isSpot_13 : decode M_X5_isSpot.2.1 13 = .ok (.iconst 2, 1) := by decide +kernel
theorem dX5_isSpot_14 : decode M_X5_isSpot.2.1 14 = .ok (.aload_n 0, 1) := by decide +kernel
theorem dX5_isSpot_15 : decode M_X5_isSpot.2.1 15 = .ok (.getfield 10, 3) := by decide +kernel
theorem dX5_isSpot_18 : decode M_X5_isSpot.2.1 18 = .ok (.iload_n 1, 1) := by decide +kernel
theorem dX5_isSpot_19 : decode M_X5_isSpot.2.1 19 = .ok (.iconst 1, 1) := by decide +kernel
theorem dX5_isSpot_20 : decode M_X5_isSpot.2.1 20 = .ok (.invokevirtual 116, 3) := by decide +kernel
theorem dX5_isSpot_23 : decode M_X5_isSpot.2.1 23 = .ok (.imul, 1) := by decide +kernel
theorem dX5_isSpot_24 : decode M_X5_isSpot.2.1 24 = .ok (.invokestatic 60, 3) := by decide +kernel
theorem dX5_isSpot_27 : decode M_X5_isSpot.2.1 27 = .ok (.ifCond .eq 7, 3) := by decide +kernel
theorem dX5_isSpot_30 : decode M_X5_isSpot.2.1 30 = .ok (.iconst 1, 1) := by decide +kernel
theorem dX5_isSpot_31 : decode M_X5_isSpot.2.1 31 = .ok (.goto 4, 3) := by decide +kernel
theorem dX5_isSpot_34 : decode M_X5_isSpot.2.1 34 = .ok (.iconst 0, 1) := by decide +kernel
theorem dX5_isSpot_35 : decode M_X5_isSpot.2.1 35 = .ok (.ireturn, 1) := by decide +kernel
theorem dX5_remember_0 : decode M_X5_remember.2.1 0 = .ok (.aload_n 0, 1) := by decide +kernel
theorem dX5_remember_1 : decode M_X5_remember.2.1 1 = .ok (.getfield 56, 3) := by decide +kernel
theorem dX5_remember_4 : decode M_X5_remember.2.1 4 = .ok (.bipush 6, 2) := by decide +kernel
theorem dX5_remember_6 : decode M_X5_remember.2.1 6 = .ok (.if_icmp .lt 15, 3) := by decide +kernel
theorem dX5_remember_9 : decode M_X5_remember.2.1 9 = .ok (.aload_n 0, 1) := by decide +kernel
theorem dX5_remember_10 : decode M_X5_remember.2.1 10 = .ok (.getfield 45, 3) := by decide +kernel
theorem dX5_remember_13 : decode M_X5_remember.2.1 13 = .ok (.invokevirtual 179, 3) := by decide +kernel
theorem dX5_remember_16 : decode M_X5_remember.2.1 16 = .ok (.aload_n 0, 1) := by decide +kernel
theorem dX5_remember_17 : decode M_X5_remember.2.1 17 = .ok (.iconst 5, 1) := by decide +kernel
theorem dX5_remember_18 : decode M_X5_remember.2.1 18 = .ok (.putfield 56, 3) := by decide +kernel
theorem dX5_remember_21 : decode M_X5_remember.2.1 21 = .ok (.aload_n 0, 1) := by decide +kernel
theorem dX5_remember_22 : decode M_X5_remember.2.1 22 = .ok (.getfield 45, 3) := by decide +kernel
theorem dX5_remember_25 : decode M_X5_remember.2.1 25 = .ok (.aload_n 0, 1) := by decide +kernel
theorem dX5_remember_26 : decode M_X5_remember.2.1 26 = .ok (.getfield 56, 3) := by decide +kernel
theorem dX5_remember_29 : decode M_X5_remember.2.1 29 = .ok (.aload_n 0, 1) := by decide +kernel
theorem dX5_remember_30 : decode M_X5_remember.2.1 30 = .ok (.getfield 10, 3) := by decide +kernel
theorem dX5_remember_33 : decode M_X5_remember.2.1 33 = .ok (.invokevirtual 170, 3) := by decide +kernel
theorem dX5_remember_36 : decode M_X5_remember.2.1 36 = .ok (.aload_n 0, 1) := by decide +kernel
theorem dX5_remember_37 : decode M_X5_remember.2.1 37 = .ok (.dup, 1) := by decide +kernel
theorem dX5_remember_38 : decode M_X5_remember.2.1 38 = .ok (.getfield 56, 3) := by decide +kernel
theorem dX5_remember_41 : decode M_X5_remember.2.1 41 = .ok (.iconst 1, 1) := by decide +kernel
theorem dX5_remember_42 : decode M_X5_remember.2.1 42 = .ok (.iadd, 1) := by decide +kernel
theorem dX5_remember_43 : decode M_X5_remember.2.1 43 = .ok (.putfield 56, 3) := by decide +kernel
theorem dX5_remember_46 : decode M_X5_remember.2.1 46 = .ok (.return_, 1) := by decide +kernel
theorem dX5_isBalanced_0 : decode M_X5_isBalanced.2.1 0 = .ok (.aload_n 0, 1) := by decide +kernel
theorem dX5_isBalanced_1 : decode M_X5_isBalanced.2.1 1 = .ok (.getfield 22, 3) := by decide +kernel
theorem dX5_isBalanced_4 : decode M_X5_isBalanced.2.1 4 = .ok (.aload_n 1, 1) := by decide +kernel
theorem dX5_isBalanced_5 : decode M_X5_isBalanced.2.1 5 = .ok (.invokevirtual 100, 3) := by decide +kernel
theorem dX5_isBalanced_8 : decode M_X5_isBalanced.2.1 8 = .ok (.aload_n 0, 1) := by decide +kernel
theorem dX5_isBalanced_9 : decode M_X5_isBalanced.2.1 9 = .ok (.getfield 29, 3) := by decide +kernel
theorem dX5_isBalanced_12 : decode M_X5_isBalanced.2.1 12 = .ok (.aload_n 1, 1) := by decide +kernel
theorem dX5_isBalanced_13 : decode M_X5_isBalanced.2.1 13 = .ok (.aload_n 0, 1) := by decide +kernel
theorem dX5_isBalanced_14 : decode M_X5_isBalanced.2.1 14 = .ok (.getfield 22, 3) := by decide +kernel
theorem dX5_isBalanced_17 : decode M_X5_isBalanced.2.1 17 = .ok (.iload_n 2, 1) := by decide +kernel
theorem dX5_isBalanced_18 : decode M_X5_isBalanced.2.1 18 = .ok (.invokevirtual 151, 3) := by decide +kernel
theorem dX5_isBalanced_21 : decode M_X5_isBalanced.2.1 21 = .ok (.aload_n 0, 1) := by decide +kernel
theorem dX5_isBalanced_22 : decode M_X5_isBalanced.2.1 22 = .ok (.getfield 29, 3) := by decide +kernel
theorem dX5_isBalanced_25 : decode M_X5_isBalanced.2.1 25 = .ok (.invokevirtual 182, 3) := by decide +kernel
theorem dX5_isBalanced_28 : decode M_X5_isBalanced.2.1 28 = .ok (.ireturn, 1) := by decide +kernel
theorem dX5_restsWithout_0 : decode M_X5_restsWithout.2.1 0 = .ok (.aload_n 0, 1) := by decide +kernel
theorem dX5_restsWithout_1 : decode M_X5_restsWithout.2.1 1 = .ok (.getfield 16, 3) := by decide +kernel
theorem dX5_restsWithout_4 : decode M_X5_restsWithout.2.1 4 = .ok (.aload_n 0, 1) := by decide +kernel
theorem dX5_restsWithout_5 : decode M_X5_restsWithout.2.1 5 = .ok (.getfield 10, 3) := by decide +kernel
theorem dX5_restsWithout_8 : decode M_X5_restsWithout.2.1 8 = .ok (.invokevirtual 85, 3) := by decide +kernel
theorem dX5_restsWithout_11 : decode M_X5_restsWithout.2.1 11 = .ok (.aload_n 0, 1) := by decide +kernel
theorem dX5_restsWithout_12 : decode M_X5_restsWithout.2.1 12 = .ok (.getfield 16, 3) := by decide +kernel
theorem dX5_restsWithout_15 : decode M_X5_restsWithout.2.1 15 = .ok (.iload_n 1, 1) := by decide +kernel
theorem dX5_restsWithout_16 : decode M_X5_restsWithout.2.1 16 = .ok (.invokevirtual 113, 3) := by decide +kernel
theorem dX5_restsWithout_19 : decode M_X5_restsWithout.2.1 19 = .ok (.aload_n 0, 1) := by decide +kernel
theorem dX5_restsWithout_20 : decode M_X5_restsWithout.2.1 20 = .ok (.aload_n 0, 1) := by decide +kernel
theorem dX5_restsWithout_21 : decode M_X5_restsWithout.2.1 21 = .ok (.getfield 16, 3) := by decide +kernel
theorem dX5_restsWithout_24 : decode M_X5_restsWithout.2.1 24 = .ok (.iconst 0, 1) := by decide +kernel
theorem dX5_restsWithout_25 : decode M_X5_restsWithout.2.1 25 = .ok (.invokevirtual 145, 3) := by decide +kernel
theorem dX5_restsWithout_28 : decode M_X5_restsWithout.2.1 28 = .ok (.ireturn, 1) := by decide +kernel
theorem dX5_extreme_0 : decode M_X5_extreme.2.1 0 = .ok (.aload_n 0, 1) := by decide +kernel
theorem dX5_extreme_1 : decode M_X5_extreme.2.1 1 = .ok (.getfield 29, 3) := by decide +kernel
theorem dX5_extreme_4 : decode M_X5_extreme.2.1 4 = .ok (.invokevirtual 182, 3) := by decide +kernel
theorem dX5_extreme_7 : decode M_X5_extreme.2.1 7 = .ok (.ifCond .ne 7, 3) := by decide +kernel
theorem dX5_extreme_10 : decode M_X5_extreme.2.1 10 = .ok (.ldc2_w 186, 3) := by decide +kernel
theorem dX5_extreme_13 : decode M_X5_extreme.2.1 13 = .ok (.lreturn, 1) := by decide +kernel
theorem dX5_extreme_14 : decode M_X5_extreme.2.1 14 = .ok (.iload_n 2, 1) := by decide +kernel
theorem dX5_extreme_15 : decode M_X5_extreme.2.1 15 = .ok (.iconst 2, 1) := by decide +kernel
theorem dX5_extreme_16 : decode M_X5_extreme.2.1 16 = .ok (.if_icmp .ge 14, 3) := by decide +kernel
theorem dX5_extreme_19 : decode M_X5_extreme.2.1 19 = .ok (.aload_n 0, 1) := by decide +kernel
theorem dX5_extreme_20 : decode M_X5_extreme.2.1 20 = .ok (.getfield 29, 3) := by decide +kernel
theorem dX5_extreme_23 : decode M_X5_extreme.2.1 23 = .ok (.iload_n 1, 1) := by decide +kernel
theorem dX5_extreme_24 : decode M_X5_extreme.2.1 24 = .ok (.invokevirtual 188, 3) := by decide +kernel
theorem dX5_extreme_27 : decode M_X5_extreme.2.1 27 = .ok (.goto 18, 3) := by decide +kernel
theorem dX5_extreme_30 : decode M_X5_extreme.2.1 30 = .ok (.aload_n 0, 1) := by decide +kernel
theorem dX5_extreme_31 : decode M_X5_extreme.2.1 31 = .ok (.getfield 29, 3) := by decide +kernel
theorem dX5_extreme_34 : decode M_X5_extreme.2.1 34 = .ok (.iload_n 1, 1) := by decide +kernel
theorem dX5_extreme_35 : decode M_X5_extreme.2.1 35 = .ok (.invokevirtual 191, 3) := by decide +kernel
theorem dX5_extreme_38 : decode M_X5_extreme.2.1 38 = .ok (.ifCond .ne 7, 3) := by decide +kernel
theorem dX5_extreme_41 : decode M_X5_extreme.2.1 41 = .ok (.ldc2_w 194, 3) := by decide +kernel
theorem dX5_extreme_44 : decode M_X5_extreme.2.1 44 = .ok (.lreturn, 1) := by decide +kernel
theorem dX5_extreme_45 : decode M_X5_extreme.2.1 45 = .ok (.iload_n 2, 1) := by decide +kernel
theorem dX5_extreme_46 : decode M_X5_extreme.2.1 46 = .ok (.iconst 2, 1) := by decide +kernel
theorem dX5_extreme_47 : decode M_X5_extreme.2.1 47 = .ok (.irem, 1) := by decide +kernel
theorem dX5_extreme_48 : decode M_X5_extreme.2.1 48 = .ok (.ifCond .ne 14, 3) := by decide +kernel
theorem dX5_extreme_51 : decode M_X5_extreme.2.1 51 = .ok (.aload_n 0, 1) := by decide +kernel
theorem dX5_extreme_52 : decode M_X5_extreme.2.1 52 = .ok (.getfield 29, 3) := by decide +kernel
theorem dX5_extreme_55 : decode M_X5_extreme.2.1 55 = .ok (.iload_n 1, 1) := by decide +kernel
theorem dX5_extreme_56 : decode M_X5_extreme.2.1 56 = .ok (.invokevirtual 196, 3) := by decide +kernel
theorem dX5_extreme_59 : decode M_X5_extreme.2.1 59 = .ok (.goto 11, 3) := by decide +kernel
theorem dX5_extreme_62 : decode M_X5_extreme.2.1 62 = .ok (.aload_n 0, 1) := by decide +kernel
theorem dX5_extreme_63 : decode M_X5_extreme.2.1 63 = .ok (.getfield 29, 3) := by decide +kernel
theorem dX5_extreme_66 : decode M_X5_extreme.2.1 66 = .ok (.iload_n 1, 1) := by decide +kernel
theorem dX5_extreme_67 : decode M_X5_extreme.2.1 67 = .ok (.invokevirtual 200, 3) := by decide +kernel
theorem dX5_extreme_70 : decode M_X5_extreme.2.1 70 = .ok (.lreturn, 1) := by decide +kernel
theorem dX6_init_0 : decode M_X6_init.2.1 0 = .ok (.aload_n 0, 1) := by decide +kernel
theorem dX6_init_1 : decode M_X6_init.2.1 1 = .ok (.invokespecial 1, 3) := by decide +kernel
theorem dX6_init_4 : decode M_X6_init.2.1 4 = .ok (.aload_n 0, 1) := by decide +kernel
theorem dX6_init_5 : decode M_X6_init.2.1 5 = .ok (.bipush 21, 2) := by decide +kernel
theorem dX6_init_7 : decode M_X6_init.2.1 7 = .ok (.newarray .int, 2) := by decide +kernel
theorem dX6_init_9 : decode M_X6_init.2.1 9 = .ok (.putfield 7, 3) := by decide +kernel
theorem dX6_init_12 : decode M_X6_init.2.1 12 = .ok (.aload_n 0, 1) := by decide +kernel
theorem dX6_init_13 : decode M_X6_init.2.1 13 = .ok (.bipush 126, 2) := by decide +kernel
theorem dX6_init_15 : decode M_X6_init.2.1 15 = .ok (.newarray .int, 2) := by decide +kernel
theorem dX6_init_17 : decode M_X6_init.2.1 17 = .ok (.putfield 13, 3) := by decide +kernel
theorem dX6_init_20 : decode M_X6_init.2.1 20 = .ok (.aload_n 0, 1) := by decide +kernel
theorem dX6_init_21 : decode M_X6_init.2.1 21 = .ok (.bipush 42, 2) := by decide +kernel
theorem dX6_init_23 : decode M_X6_init.2.1 23 = .ok (.newarray .int, 2) := by decide +kernel
theorem dX6_init_25 : decode M_X6_init.2.1 25 = .ok (.putfield 16, 3) := by decide +kernel
theorem dX6_init_28 : decode M_X6_init.2.1 28 = .ok (.aload_n 0, 1) := by decide +kernel
theorem dX6_init_29 : decode M_X6_init.2.1 29 = .ok (.iconst 2, 1) := by decide +kernel
theorem dX6_init_30 : decode M_X6_init.2.1 30 = .ok (.newarray .boolean, 2) := by decide +kernel
theorem dX6_init_32 : decode M_X6_init.2.1 32 = .ok (.putfield 19, 3) := by decide +kernel
theorem dX6_init_35 : decode M_X6_init.2.1 35 = .ok (.aload_n 0, 1) := by decide +kernel
theorem dX6_init_36 : decode M_X6_init.2.1 36 = .ok (.bipush 120, 2) := by decide +kernel
theorem dX6_init_38 : decode M_X6_init.2.1 38 = .ok (.newarray .int, 2) := by decide +kernel
theorem dX6_init_40 : decode M_X6_init.2.1 40 = .ok (.putfield 23, 3) := by decide +kernel
theorem dX6_init_43 : decode M_X6_init.2.1 43 = .ok (.aload_n 0, 1) := by decide +kernel
theorem dX6_init_44 : decode M_X6_init.2.1 44 = .ok (.iconst 4, 1) := by decide +kernel
theorem dX6_init_45 : decode M_X6_init.2.1 45 = .ok (.newarray .int, 2) := by decide +kernel
theorem dX6_init_47 : decode M_X6_init.2.1 47 = .ok (.putfield 26, 3) := by decide +kernel
theorem dX6_init_50 : decode M_X6_init.2.1 50 = .ok (.aload_n 0, 1) := by decide +kernel
theorem dX6_init_51 : decode M_X6_init.2.1 51 = .ok (.iconst 4, 1) := by decide +kernel
theorem dX6_init_52 : decode M_X6_init.2.1 52 = .ok (.newarray .int, 2) := by decide +kernel
theorem dX6_init_54 : decode M_X6_init.2.1 54 = .ok (.putfield 29, 3) := by decide +kernel
theorem dX6_init_57 : decode M_X6_init.2.1 57 = .ok (.aload_n 0, 1) := by decide +kernel
theorem dX6_init_58 : decode M_X6_init.2.1 58 = .ok (.bipush 16, 2) := by decide +kernel
theorem dX6_init_60 : decode M_X6_init.2.1 60 = .ok (.newarray .int, 2) := by decide +kernel
theorem dX6_init_62 : decode M_X6_init.2.1 62 = .ok (.putfield 32, 3) := by decide +kernel
theorem dX6_init_65 : decode M_X6_init.2.1 65 = .ok (.aload_n 0, 1) := by decide +kernel
theorem dX6_init_66 : decode M_X6_init.2.1 66 = .ok (.bipush 16, 2) := by decide +kernel
theorem dX6_init_68 : decode M_X6_init.2.1 68 = .ok (.newarray .int, 2) := by decide +kernel
theorem dX6_init_70 : decode M_X6_init.2.1 70 = .ok (.putfield 35, 3) := by decide +kernel
theorem dX6_init_73 : decode M_X6_init.2.1 73 = .ok (.aload_n 0, 1) := by decide +kernel
theorem dX6_init_74 : decode M_X6_init.2.1 74 = .ok (.bipush 16, 2) := by decide +kernel
theorem dX6_init_76 : decode M_X6_init.2.1 76 = .ok (.newarray .int, 2) := by decide +kernel
theorem dX6_init_78 : decode M_X6_init.2.1 78 = .ok (.putfield 38, 3) := by decide +kernel
theorem dX6_init_81 : decode M_X6_init.2.1 81 = .ok (.aload_n 0, 1) := by decide +kernel
theorem dX6_init_82 : decode M_X6_init.2.1 82 = .ok (.sipush 128, 3) := by decide +kernel
theorem dX6_init_85 : decode M_X6_init.2.1 85 = .ok (.newarray .long, 2) := by decide +kernel
theorem dX6_init_87 : decode M_X6_init.2.1 87 = .ok (.putfield 41, 3) := by decide +kernel
theorem dX6_init_90 : decode M_X6_init.2.1 90 = .ok (.aload_n 0, 1) := by decide +kernel
theorem dX6_init_91 : decode M_X6_init.2.1 91 = .ok (.bipush 8, 2) := by decide +kernel
theorem dX6_init_93 : decode M_X6_init.2.1 93 = .ok (.newarray .long, 2) := by decide +kernel
theorem dX6_init_95 : decode M_X6_init.2.1 95 = .ok (.putfield 45, 3) := by decide +kernel
theorem dX6_init_98 : decode M_X6_init.2.1 98 = .ok (.aload_n 0, 1) := by decide +kernel
theorem dX6_init_99 : decode M_X6_init.2.1 99 = .ok (.bipush 72, 2) := by decide +kernel
theorem dX6_init_101 : decode M_X6_init.2.1 101 = .ok (.newarray .long, 2) := by decide +kernel
theorem dX6_init_103 : decode M_X6_init.2.1 103 = .ok (.putfield 48, 3) := by decide +kernel
theorem dX6_init_106 : decode M_X6_init.2.1 106 = .ok (.aload_n 0, 1) := by decide +kernel
theorem dX6_init_107 : decode M_X6_init.2.1 107 = .ok (.bipush 21, 2) := by decide +kernel
theorem dX6_init_109 : decode M_X6_init.2.1 109 = .ok (.newarray .int, 2) := by decide +kernel
theorem dX6_init_111 : decode M_X6_init.2.1 111 = .ok (.putfield 51, 3) := by decide +kernel
theorem dX6_init_114 : decode M_X6_init.2.1 114 = .ok (.return_, 1) := by decide +kernel
theorem dX6_within_0 : decode M_X6_within.2.1 0 = .ok (.iload_n 0, 1) := by decide +kernel
theorem dX6_within_1 : decode M_X6_within.2.1 1 = .ok (.iload_n 1, 1) := by decide +kernel
theorem dX6_within_2 : decode M_X6_within.2.1 2 = .ok (.if_icmp .lt 12, 3) := by decide +kernel
theorem dX6_within_5 : decode M_X6_within.2.1 5 = .ok (.iload_n 0, 1) := by decide +kernel
theorem dX6_within_6 : decode M_X6_within.2.1 6 = .ok (.iload_n 2, 1) := by decide +kernel
theorem dX6_within_7 : decode M_X6_within.2.1 7 = .ok (.if_icmp .gt 7, 3) := by decide +kernel
theorem dX6_within_10 : decode M_X6_within.2.1 10 = .ok (.iconst 1, 1) := by decide +kernel
theorem dX6_within_11 : decode M_X6_within.2.1 11 = .ok (.goto 4, 3) := by decide +kernel
theorem dX6_within_14 : decode M_X6_within.2.1 14 = .ok (.iconst 0, 1) := by decide +kernel
theorem dX6_within_15 : decode M_X6_within.2.1 15 = .ok (.ireturn, 1) := by decide +kernel
theorem dX6_has_0 : decode M_X6_has.2.1 0 = .ok (.iload_n 0, 1) := by decide +kernel
theorem dX6_has_1 : decode M_X6_has.2.1 1 = .ok (.iload_n 1, 1) := by decide +kernel
theorem dX6_has_2 : decode M_X6_has.2.1 2 = .ok (.ishr, 1) := by decide +kernel
theorem dX6_has_3 : decode M_X6_has.2.1 3 = .ok (.iconst 1, 1) := by decide +kernel
theorem dX6_has_4 : decode M_X6_has.2.1 4 = .ok (.iand, 1) := by decide +kernel
theorem dX6_has_5 : decode M_X6_has.2.1 5 = .ok (.iconst 1, 1) := by decide +kernel
theorem dX6_has_6 : decode M_X6_has.2.1 6 = .ok (.if_icmp .ne 7, 3) := by decide +kernel
theorem dX6_has_9 : decode M_X6_has.2.1 9 = .ok (.iconst 1, 1) := by decide +kernel
theorem dX6_has_10 : decode M_X6_has.2.1 10 = .ok (.goto 4, 3) := by decide +kernel
theorem dX6_has_13 : decode M_X6_has.2.1 13 = .ok (.iconst 0, 1) := by decide +kernel
theorem dX6_has_14 : decode M_X6_has.2.1 14 = .ok (.ireturn, 1) := by decide +kernel
theorem dX6_ones_0 : decode M_X6_ones.2.1 0 = .ok (.iconst 0, 1) := by decide +kernel
theorem dX6_ones_1 : decode M_X6_ones.2.1 1 = .ok (.istore_n 1, 1) := by decide +kernel
theorem dX6_ones_2 : decode M_X6_ones.2.1 2 = .ok (.iconst 0, 1) := by decide +kernel
theorem dX6_ones_3 : decode M_X6_ones.2.1 3 = .ok (.istore_n 2, 1) := by decide +kernel
theorem dX6_ones_4 : decode M_X6_ones.2.1 4 = .ok (.iload_n 2, 1) := by decide +kernel
end
section
theorem dX6_ones_5 : decode M_X6_ones.2.1 5 = .ok (.bipush 16, 2) := by decide +kernel
theorem dX6_ones_7 : decode M_X6_ones.2.1 7 = .ok (.if_icmp .ge 17, 3) := by decide +kernel
theorem dX6_ones_10 : decode M_X6_ones.2.1 10 = .ok (.iload_n 1, 1) := by decide +kernel
theorem dX6_ones_11 : decode M_X6_ones.2.1 11 = .ok (.iload_n 0, 1) := by decide +kernel
theorem dX6_ones_12 : decode M_X6_ones.2.1 12 = .ok (.iload_n 2, 1) := by decide +kernel
theorem dX6_ones_13 : decode M_X6_ones.2.1 13 = .ok (.ishr, 1) := by decide +kernel
theorem dX6_ones_14 : decode M_X6_ones.2.1 14 = .ok (.iconst 1, 1) := by decide +kernel
theorem dX6_ones_15 : decode M_X6_ones.2.1 15 = .ok (.iand, 1) := by decide +kernel
theorem dX6_ones_16 : decode M_X6_ones.2.1 16 = .ok (.iadd, 1) := by decide +kernel
theorem dX6_ones_17 : decode M_X6_ones.2.1 17 = .ok (.istore_n 1, 1) := by decide +kernel
theorem dX6_ones_18 : decode M_X6_ones.2.1 18 = .ok (.iinc 2 1, 3) := by decide +kernel
theorem dX6_ones_21 : decode M_X6_ones.2.1 21 = .ok (.goto (-17), 3) := by decide +kernel
theorem dX6_ones_24 : decode M_X6_ones.2.1 24 = .ok (.iload_n 1, 1) := by decide +kernel
theorem dX6_ones_25 : decode M_X6_ones.2.1 25 = .ok (.ireturn, 1) := by decide +kernel
theorem dX6_many_0 : decode M_X6_many.2.1 0 = .ok (.aload_n 0, 1) := by decide +kernel
theorem dX6_many_1 : decode M_X6_many.2.1 1 = .ok (.getfield 7, 3) := by decide +kernel
theorem dX6_many_4 : decode M_X6_many.2.1 4 = .ok (.iconst 0, 1) := by decide +kernel
theorem dX6_many_5 : decode M_X6_many.2.1 5 = .ok (.iaload, 1) := by decide +kernel
theorem dX6_many_6 : decode M_X6_many.2.1 6 = .ok (.ireturn, 1) := by decide +kernel
theorem dX6_isBlock_0 : decode M_X6_isBlock.2.1 0 = .ok (.iload_n 1, 1) := by decide +kernel
theorem dX6_isBlock_1 : decode M_X6_isBlock.2.1 1 = .ok (.iconst 0, 1) := by decide +kernel
theorem dX6_isBlock_2 : decode M_X6_isBlock.2.1 2 = .ok (.aload_n 0, 1) := by decide +kernel
theorem dX6_isBlock_3 : decode M_X6_isBlock.2.1 3 = .ok (.getfield 7, 3) := by decide +kernel
theorem dX6_isBlock_6 : decode M_X6_isBlock.2.1 6 = .ok (.iconst 0, 1) := by decide +kernel
theorem dX6_isBlock_7 : decode M_X6_isBlock.2.1 7 = .ok (.iaload, 1) := by decide +kernel
theorem dX6_isBlock_8 : decode M_X6_isBlock.2.1 8 = .ok (.iconst 1, 1) := by decide +kernel
theorem dX6_isBlock_9 : decode M_X6_isBlock.2.1 9 = .ok (.isub, 1) := by decide +kernel
theorem dX6_isBlock_10 : decode M_X6_isBlock.2.1 10 = .ok (.invokestatic 54, 3) := by decide +kernel
theorem dX6_isBlock_13 : decode M_X6_isBlock.2.1 13 = .ok (.ireturn, 1) := by decide +kernel
theorem dX6_get_0 : decode M_X6_get.2.1 0 = .ok (.aload_n 0, 1) := by decide +kernel
theorem dX6_get_1 : decode M_X6_get.2.1 1 = .ok (.getfield 7, 3) := by decide +kernel
theorem dX6_get_4 : decode M_X6_get.2.1 4 = .ok (.iconst 5, 1) := by decide +kernel
theorem dX6_get_5 : decode M_X6_get.2.1 5 = .ok (.iload_n 1, 1) := by decide +kernel
theorem dX6_get_6 : decode M_X6_get.2.1 6 = .ok (.imul, 1) := by decide +kernel
theorem dX6_get_7 : decode M_X6_get.2.1 7 = .ok (.iload_n 2, 1) := by decide +kernel
theorem dX6_get_8 : decode M_X6_get.2.1 8 = .ok (.iadd, 1) := by decide +kernel
theorem dX6_get_9 : decode M_X6_get.2.1 9 = .ok (.iaload, 1) := by decide +kernel
theorem dX6_get_10 : decode M_X6_get.2.1 10 = .ok (.ireturn, 1) := by decide +kernel
theorem dX6_end_0 : decode M_X6_end.2.1 0 = .ok (.aload_n 0, 1) := by decide +kernel
theorem dX6_end_1 : decode M_X6_end.2.1 1 = .ok (.iload_n 1, 1) := by decide +kernel
theorem dX6_end_2 : decode M_X6_end.2.1 2 = .ok (.iconst 1, 1) := by decide +kernel
theorem dX6_end_3 : decode M_X6_end.2.1 3 = .ok (.invokevirtual 58, 3) := by decide +kernel
theorem dX6_end_6 : decode M_X6_end.2.1 6 = .ok (.iconst 2, 1) := by decide +kernel
theorem dX6_end_7 : decode M_X6_end.2.1 7 = .ok (.aload_n 0, 1) := by decide +kernel
theorem dX6_end_8 : decode M_X6_end.2.1 8 = .ok (.iload_n 1, 1) := by decide +kernel
theorem dX6_end_9 : decode M_X6_end.2.1 9 = .ok (.iconst 2, 1) := by decide +kernel
theorem dX6_end_10 : decode M_X6_end.2.1 10 = .ok (.invokevirtual 58, 3) := by decide +kernel
theorem dX6_end_13 : decode M_X6_end.2.1 13 = .ok (.imul, 1) := by decide +kernel
theorem dX6_end_14 : decode M_X6_end.2.1 14 = .ok (.iadd, 1) := by decide +kernel
theorem dX6_end_15 : decode M_X6_end.2.1 15 = .ok (.ireturn, 1) := by decide +kernel
theorem dX6_fits_0 : decode M_X6_fits.2.1 0 = .ok (.iload_n 0, 1) := by decide +kernel
theorem dX6_fits_1 : decode M_X6_fits.2.1 1 = .ok (.iconst 0, 1) := by decide +kernel
theorem dX6_fits_2 : decode M_X6_fits.2.1 2 = .ok (.bipush 9, 2) := by decide +kernel
theorem dX6_fits_4 : decode M_X6_fits.2.1 4 = .ok (.invokestatic 54, 3) := by decide +kernel
theorem dX6_fits_7 : decode M_X6_fits.2.1 7 = .ok (.ifCond .eq 26, 3) := by decide +kernel
theorem dX6_fits_10 : decode M_X6_fits.2.1 10 = .ok (.iload_n 1, 1) := by decide +kernel
theorem dX6_fits_11 : decode M_X6_fits.2.1 11 = .ok (.iconst 1, 1) := by decide +kernel
theorem dX6_fits_12 : decode M_X6_fits.2.1 12 = .ok (.iconst 3, 1) := by decide +kernel
theorem dX6_fits_13 : decode M_X6_fits.2.1 13 = .ok (.invokestatic 54, 3) := by decide +kernel
theorem dX6_fits_16 : decode M_X6_fits.2.1 16 = .ok (.ifCond .eq 17, 3) := by decide +kernel
theorem dX6_fits_19 : decode M_X6_fits.2.1 19 = .ok (.iload_n 2, 1) := by decide +kernel
theorem dX6_fits_20 : decode M_X6_fits.2.1 20 = .ok (.iconst 1, 1) := by decide +kernel
theorem dX6_fits_21 : decode M_X6_fits.2.1 21 = .ok (.bipush 9, 2) := by decide +kernel
theorem dX6_fits_23 : decode M_X6_fits.2.1 23 = .ok (.invokestatic 54, 3) := by decide +kernel
theorem dX6_fits_26 : decode M_X6_fits.2.1 26 = .ok (.ifCond .eq 7, 3) := by decide +kernel
theorem dX6_fits_29 : decode M_X6_fits.2.1 29 = .ok (.iconst 1, 1) := by decide +kernel
theorem dX6_fits_30 : decode M_X6_fits.2.1 30 = .ok (.goto 4, 3) := by decide +kernel
theorem dX6_fits_33 : decode M_X6_fits.2.1 33 = .ok (.iconst 0, 1) := by decide +kernel
theorem dX6_fits_34 : decode M_X6_fits.2.1 34 = .ok (.ireturn, 1) := by decide +kernel
theorem dX6_appends_0 : decode M_X6_appends.2.1 0 = .ok (.iconst 5, 1) := by decide +kernel
theorem dX6_appends_1 : decode M_X6_appends.2.1 1 = .ok (.aload_n 0, 1) := by decide +kernel
theorem dX6_appends_2 : decode M_X6_appends.2.1 2 = .ok (.getfield 7, 3) := by decide +kernel
theorem dX6_appends_5 : decode M_X6_appends.2.1 5 = .ok (.iconst 0, 1) := by decide +kernel
theorem dX6_appends_6 : decode M_X6_appends.2.1 6 = .ok (.iaload, 1) := by decide +kernel
theorem dX6_appends_7 : decode M_X6_appends.2.1 7 = .ok (.imul, 1) := by decide +kernel
theorem dX6_appends_8 : decode M_X6_appends.2.1 8 = .ok (.istore 4, 2) := by decide +kernel
theorem dX6_appends_10 : decode M_X6_appends.2.1 10 = .ok (.aload_n 0, 1) := by decide +kernel
theorem dX6_appends_11 : decode M_X6_appends.2.1 11 = .ok (.getfield 7, 3) := by decide +kernel
theorem dX6_appends_14 : decode M_X6_appends.2.1 14 = .ok (.iload 4, 2) := by decide +kernel
theorem dX6_appends_16 : decode M_X6_appends.2.1 16 = .ok (.iconst 1, 1) := by decide +kernel
theorem dX6_appends_17 : decode M_X6_appends.2.1 17 = .ok (.iadd, 1) := by decide +kernel
theorem dX6_appends_18 : decode M_X6_appends.2.1 18 = .ok (.iload_n 1, 1) := by decide +kernel
theorem dX6_appends_19 : decode M_X6_appends.2.1 19 = .ok (.iastore, 1) := by decide +kernel
theorem dX6_appends_20 : decode M_X6_appends.2.1 20 = .ok (.aload_n 0, 1) := by decide +kernel
theorem dX6_appends_21 : decode M_X6_appends.2.1 21 = .ok (.getfield 7, 3) := by decide +kernel
theorem dX6_appends_24 : decode M_X6_appends.2.1 24 = .ok (.iload 4, 2) := by decide +kernel
theorem dX6_appends_26 : decode M_X6_appends.2.1 26 = .ok (.iconst 2, 1) := by decide +kernel
theorem dX6_appends_27 : decode M_X6_appends.2.1 27 = .ok (.iadd, 1) := by decide +kernel
theorem dX6_appends_28 : decode M_X6_appends.2.1 28 = .ok (.iload_n 2, 1) := by decide +kernel
theorem dX6_appends_29 : decode M_X6_appends.2.1 29 = .ok (.iastore, 1) := by decide +kernel
theorem dX6_appends_30 : decode M_X6_appends.2.1 30 = .ok (.aload_n 0, 1) := by decide +kernel
theorem dX6_appends_31 : decode M_X6_appends.2.1 31 = .ok (.getfield 7, 3) := by decide +kernel
theorem dX6_appends_34 : decode M_X6_appends.2.1 34 = .ok (.iload 4, 2) := by decide +kernel
theorem dX6_appends_36 : decode M_X6_appends.2.1 36 = .ok (.iconst 3, 1) := by decide +kernel
theorem dX6_appends_37 : decode M_X6_appends.2.1 37 = .ok (.iadd, 1) := by decide +kernel
theorem dX6_appends_38 : decode M_X6_appends.2.1 38 = .ok (.iload_n 3, 1) := by decide +kernel
theorem dX6_appends_39 : decode M_X6_appends.2.1 39 = .ok (.iastore, 1) := by decide +kernel
theorem dX6_appends_40 : decode M_X6_appends.2.1 40 = .ok (.aload_n 0, 1) := by decide +kernel
theorem dX6_appends_41 : decode M_X6_appends.2.1 41 = .ok (.getfield 7, 3) := by decide +kernel
theorem dX6_appends_44 : decode M_X6_appends.2.1 44 = .ok (.iload 4, 2) := by decide +kernel
theorem dX6_appends_46 : decode M_X6_appends.2.1 46 = .ok (.iconst 4, 1) := by decide +kernel
theorem dX6_appends_47 : decode M_X6_appends.2.1 47 = .ok (.iadd, 1) := by decide +kernel
theorem dX6_appends_48 : decode M_X6_appends.2.1 48 = .ok (.iconst 0, 1) := by decide +kernel
theorem dX6_appends_49 : decode M_X6_appends.2.1 49 = .ok (.iastore, 1) := by decide +kernel
theorem dX6_appends_50 : decode M_X6_appends.2.1 50 = .ok (.aload_n 0, 1) := by decide +kernel
theorem dX6_appends_51 : decode M_X6_appends.2.1 51 = .ok (.getfield 7, 3) := by decide +kernel
theorem dX6_appends_54 : decode M_X6_appends.2.1 54 = .ok (.iload 4, 2) := by decide +kernel
theorem dX6_appends_56 : decode M_X6_appends.2.1 56 = .ok (.iconst 5, 1) := by decide +kernel
theorem dX6_appends_57 : decode M_X6_appends.2.1 57 = .ok (.iadd, 1) := by decide +kernel
theorem dX6_appends_58 : decode M_X6_appends.2.1 58 = .ok (.iconst 0, 1) := by decide +kernel
theorem dX6_appends_59 : decode M_X6_appends.2.1 59 = .ok (.iastore, 1) := by decide +kernel
theorem dX6_appends_60 : decode M_X6_appends.2.1 60 = .ok (.aload_n 0, 1) := by decide +kernel
theorem dX6_appends_61 : decode M_X6_appends.2.1 61 = .ok (.getfield 7, 3) := by decide +kernel
theorem dX6_appends_64 : decode M_X6_appends.2.1 64 = .ok (.iconst 0, 1) := by decide +kernel
theorem dX6_appends_65 : decode M_X6_appends.2.1 65 = .ok (.dup2, 1) := by decide +kernel
theorem dX6_appends_66 : decode M_X6_appends.2.1 66 = .ok (.iaload, 1) := by decide +kernel
theorem dX6_appends_67 : decode M_X6_appends.2.1 67 = .ok (.iconst 1, 1) := by decide +kernel
theorem dX6_appends_68 : decode M_X6_appends.2.1 68 = .ok (.iadd, 1) := by decide +kernel
theorem dX6_appends_69 : decode M_X6_appends.2.1 69 = .ok (.iastore, 1) := by decide +kernel
theorem dX6_appends_70 : decode M_X6_appends.2.1 70 = .ok (.return_, 1) := by decide +kernel
theorem dX6_removes_0 : decode M_X6_removes.2.1 0 = .ok (.iconst 5, 1) := by decide +kernel
theorem dX6_removes_1 : decode M_X6_removes.2.1 1 = .ok (.iload_n 1, 1) := by decide +kernel
theorem dX6_removes_2 : decode M_X6_removes.2.1 2 = .ok (.imul, 1) := by decide +kernel
theorem dX6_removes_3 : decode M_X6_removes.2.1 3 = .ok (.iconst 1, 1) := by decide +kernel
theorem dX6_removes_4 : decode M_X6_removes.2.1 4 = .ok (.iadd, 1) := by decide +kernel
theorem dX6_removes_5 : decode M_X6_removes.2.1 5 = .ok (.istore_n 2, 1) := by decide +kernel
theorem dX6_removes_6 : decode M_X6_removes.2.1 6 = .ok (.iload_n 2, 1) := by decide +kernel
theorem dX6_removes_7 : decode M_X6_removes.2.1 7 = .ok (.iconst 5, 1) := by decide +kernel
theorem dX6_removes_8 : decode M_X6_removes.2.1 8 = .ok (.aload_n 0, 1) := by decide +kernel
theorem dX6_removes_9 : decode M_X6_removes.2.1 9 = .ok (.getfield 7, 3) := by decide +kernel
theorem dX6_removes_12 : decode M_X6_removes.2.1 12 = .ok (.iconst 0, 1) := by decide +kernel
theorem dX6_removes_13 : decode M_X6_removes.2.1 13 = .ok (.iaload, 1) := by decide +kernel
theorem dX6_removes_14 : decode M_X6_removes.2.1 14 = .ok (.iconst 1, 1) := by decide +kernel
theorem dX6_removes_15 : decode M_X6_removes.2.1 15 = .ok (.isub, 1) := by decide +kernel
theorem dX6_removes_16 : decode M_X6_removes.2.1 16 = .ok (.imul, 1) := by decide +kernel
theorem dX6_removes_17 : decode M_X6_removes.2.1 17 = .ok (.if_icmp .gt 23, 3) := by decide +kernel
theorem dX6_removes_20 : decode M_X6_removes.2.1 20 = .ok (.aload_n 0, 1) := by decide +kernel
theorem dX6_removes_21 : decode M_X6_removes.2.1 21 = .ok (.getfield 7, 3) := by decide +kernel
theorem dX6_removes_24 : decode M_X6_removes.2.1 24 = .ok (.iload_n 2, 1) := by decide +kernel
theorem dX6_removes_25 : decode M_X6_removes.2.1 25 = .ok (.aload_n 0, 1) := by decide +kernel
theorem dX6_removes_26 : decode M_X6_removes.2.1 26 = .ok (.getfield 7, 3) := by decide +kernel
theorem dX6_removes_29 : decode M_X6_removes.2.1 29 = .ok (.iload_n 2, 1) := by decide +kernel
theorem dX6_removes_30 : decode M_X6_removes.2.1 30 = .ok (.iconst 5, 1) := by decide +kernel
theorem dX6_removes_31 : decode M_X6_removes.2.1 31 = .ok (.iadd, 1) := by decide +kernel
theorem dX6_removes_32 : decode M_X6_removes.2.1 32 = .ok (.iaload, 1) := by decide +kernel
theorem dX6_removes_33 : decode M_X6_removes.2.1 33 = .ok (.iastore, 1) := by decide +kernel
theorem dX6_removes_34 : decode M_X6_removes.2.1 34 = .ok (.iinc 2 1, 3) := by decide +kernel
theorem dX6_removes_37 : decode M_X6_removes.2.1 37 = .ok (.goto (-31), 3) := by decide +kernel
theorem dX6_removes_40 : decode M_X6_removes.2.1 40 = .ok (.aload_n 0, 1) := by decide +kernel
theorem dX6_removes_41 : decode M_X6_removes.2.1 41 = .ok (.getfield 7, 3) := by decide +kernel
theorem dX6_removes_44 : decode M_X6_removes.2.1 44 = .ok (.iconst 0, 1) := by decide +kernel
theorem dX6_removes_45 : decode M_X6_removes.2.1 45 = .ok (.dup2, 1) := by decide +kernel
theorem dX6_removes_46 : decode M_X6_removes.2.1 46 = .ok (.iaload, 1) := by decide +kernel
theorem dX6_removes_47 : decode M_X6_removes.2.1 47 = .ok (.iconst 1, 1) := by decide +kernel
theorem dX6_removes_48 : decode M_X6_removes.2.1 48 = .ok (.isub, 1) := by decide +kernel
theorem dX6_removes_49 : decode M_X6_removes.2.1 49 = .ok (.iastore, 1) := by decide +kernel
theorem dX6_removes_50 : decode M_X6_removes.2.1 50 = .ok (.return_, 1) := by decide +kernel
theorem dX6_from_0 : decode M_X6_from.2.1 0 = .ok (.aload_n 0, 1) := by decide +kernel
theorem dX6_from_1 : decode M_X6_from.2.1 1 = .ok (.iload_n 1, 1) := by decide +kernel
theorem dX6_from_2 : decode M_X6_from.2.1 2 = .ok (.iconst 1, 1) := by decide +kernel
theorem dX6_from_3 : decode M_X6_from.2.1 3 = .ok (.invokevirtual 58, 3) := by decide +kernel
theorem dX6_from_6 : decode M_X6_from.2.1 6 = .ok (.aload_n 0, 1) := by decide +kernel
theorem dX6_from_7 : decode M_X6_from.2.1 7 = .ok (.iload_n 2, 1) := by decide +kernel
theorem dX6_from_8 : decode M_X6_from.2.1 8 = .ok (.iconst 1, 1) := by decide +kernel
theorem dX6_from_9 : decode M_X6_from.2.1 9 = .ok (.invokevirtual 58, 3) := by decide +kernel
theorem dX6_from_12 : decode M_X6_from.2.1 12 = .ok (.if_icmp .le 12, 3) := by decide +kernel
theorem dX6_from_15 : decode M_X6_from.2.1 15 = .ok (.aload_n 0, 1) := by decide +kernel
theorem dX6_from_16 : decode M_X6_from.2.1 16 = .ok (.iload_n 1, 1) := by decide +kernel
theorem dX6_from_17 : decode M_X6_from.2.1 17 = .ok (.iconst 1, 1) := by decide +kernel
theorem dX6_from_18 : decode M_X6_from.2.1 18 = .ok (.invokevirtual 58, 3) := by decide +kernel
theorem dX6_from_21 : decode M_X6_from.2.1 21 = .ok (.goto 9, 3) := by decide +kernel
theorem dX6_from_24 : decode M_X6_from.2.1 24 = .ok (.aload_n 0, 1) := by decide +kernel
theorem dX6_from_25 : decode M_X6_from.2.1 25 = .ok (.iload_n 2, 1) := by decide +kernel
theorem dX6_from_26 : decode M_X6_from.2.1 26 = .ok (.iconst 1, 1) := by decide +kernel
theorem dX6_from_27 : decode M_X6_from.2.1 27 = .ok (.invokevirtual 58, 3) := by decide +kernel
theorem dX6_from_30 : decode M_X6_from.2.1 30 = .ok (.ireturn, 1) := by decide +kernel
theorem dX6_to_0 : decode M_X6_to.2.1 0 = .ok (.aload_n 0, 1) := by decide +kernel
theorem dX6_to_1 : decode M_X6_to.2.1 1 = .ok (.iload_n 1, 1) := by decide +kernel
theorem dX6_to_2 : decode M_X6_to.2.1 2 = .ok (.invokevirtual 62, 3) := by decide +kernel
theorem dX6_to_5 : decode M_X6_to.2.1 5 = .ok (.aload_n 0, 1) := by decide +kernel
theorem dX6_to_6 : decode M_X6_to.2.1 6 = .ok (.iload_n 2, 1) := by decide +kernel
theorem dX6_to_7 : decode M_X6_to.2.1 7 = .ok (.invokevirtual 62, 3) := by decide +kernel
theorem dX6_to_10 : decode M_X6_to.2.1 10 = .ok (.if_icmp .ge 11, 3) := by decide +kernel
theorem dX6_to_13 : decode M_X6_to.2.1 13 = .ok (.aload_n 0, 1) := by decide +kernel
theorem dX6_to_14 : decode M_X6_to.2.1 14 = .ok (.iload_n 1, 1) := by decide +kernel
theorem dX6_to_15 : decode M_X6_to.2.1 15 = .ok (.invokevirtual 62, 3) := by decide +kernel
theorem dX6_to_18 : decode M_X6_to.2.1 18 = .ok (.goto 8, 3) := by decide +kernel
theorem dX6_to_21 : decode M_X6_to.2.1 21 = .ok (.aload_n 0, 1) := by decide +kernel
theorem dX6_to_22 : decode M_X6_to.2.1 22 = .ok (.iload_n 2, 1) := by decide +kernel
theorem dX6_to_23 : decode M_X6_to.2.1 23 = .ok (.invokevirtual 62, 3) := by decide +kernel
theorem dX6_to_26 : decode M_X6_to.2.1 26 = .ok (.ireturn, 1) := by decide +kernel
theorem dX6_doOverlap_0 : decode M_X6_doOverlap.2.1 0 = .ok (.aload_n 0, 1) := by decide +kernel
theorem dX6_doOverlap_1 : decode M_X6_doOverlap.2.1 1 = .ok (.iload_n 1, 1) := by decide +kernel
theorem dX6_doOverlap_2 : decode M_X6_doOverlap.2.1 2 = .ok (.iload_n 2, 1) := by decide +kernel
theorem dX6_doOverlap_3 : decode M_X6_doOverlap.2.1 3 = .ok (.invokevirtual 66, 3) := by decide +kernel
theorem dX6_doOverlap_6 : decode M_X6_doOverlap.2.1 6 = .ok (.aload_n 0, 1) := by decide +kernel
theorem dX6_doOverlap_7 : decode M_X6_doOverlap.2.1 7 = .ok (.iload_n 1, 1) := by decide +kernel
theorem dX6_doOverlap_8 : decode M_X6_doOverlap.2.1 8 = .ok (.iload_n 2, 1) := by decide +kernel
theorem dX6_doOverlap_9 : decode M_X6_doOverlap.2.1 9 = .ok (.invokevirtual 69, 3) := by decide +kernel
theorem dX6_doOverlap_12 : decode M_X6_doOverlap.2.1 12 = .ok (.if_icmp .ge 7, 3) := by decide +kernel
theorem dX6_doOverlap_15 : decode M_X6_doOverlap.2.1 15 = .ok (.iconst 1, 1) := by decide +kernel
theorem dX6_doOverlap_16 : decode M_X6_doOverlap.2.1 16 = .ok (.goto 4, 3) := by decide +kernel
theorem dX6_doOverlap_19 : decode M_X6_doOverlap.2.1 19 = .ok (.iconst 0, 1) := by decide +kernel
theorem dX6_doOverlap_20 : decode M_X6_doOverlap.2.1 20 = .ok (.ireturn, 1) := by decide +kernel
theorem dX6_touches_0 : decode M_X6_touches.2.1 0 = .ok (.aload_n 0, 1) := by decide +kernel
theorem dX6_touches_1 : decode M_X6_touches.2.1 1 = .ok (.getfield 32, 3) := by decide +kernel
theorem dX6_touches_4 : decode M_X6_touches.2.1 4 = .ok (.aload_n 0, 1) := by decide +kernel
theorem dX6_touches_5 : decode M_X6_touches.2.1 5 = .ok (.getfield 72, 3) := by decide +kernel
theorem dX6_touches_8 : decode M_X6_touches.2.1 8 = .ok (.iload_n 1, 1) := by decide +kernel
theorem dX6_touches_9 : decode M_X6_touches.2.1 9 = .ok (.iastore, 1) := by decide +kernel
theorem dX6_touches_10 : decode M_X6_touches.2.1 10 = .ok (.aload_n 0, 1) := by decide +kernel
theorem dX6_touches_11 : decode M_X6_touches.2.1 11 = .ok (.getfield 35, 3) := by decide +kernel
theorem dX6_touches_14 : decode M_X6_touches.2.1 14 = .ok (.aload_n 0, 1) := by decide +kernel
theorem dX6_touches_15 : decode M_X6_touches.2.1 15 = .ok (.getfield 72, 3) := by decide +kernel
theorem dX6_touches_18 : decode M_X6_touches.2.1 18 = .ok (.iload_n 2, 1) := by decide +kernel
theorem dX6_touches_19 : decode M_X6_touches.2.1 19 = .ok (.iastore, 1) := by decide +kernel
theorem dX6_touches_20 : decode M_X6_touches.2.1 20 = .ok (.aload_n 0, 1) := by decide +kernel
theorem dX6_touches_21 : decode M_X6_touches.2.1 21 = .ok (.getfield 38, 3) := by decide +kernel
theorem dX6_touches_24 : decode M_X6_touches.2.1 24 = .ok (.aload_n 0, 1) := by decide +kernel
theorem dX6_touches_25 : decode M_X6_touches.2.1 25 = .ok (.getfield 72, 3) := by decide +kernel
theorem dX6_touches_28 : decode M_X6_touches.2.1 28 = .ok (.iload_n 3, 1) := by decide +kernel
theorem dX6_touches_29 : decode M_X6_touches.2.1 29 = .ok (.iastore, 1) := by decide +kernel
theorem dX6_touches_30 : decode M_X6_touches.2.1 30 = .ok (.aload_n 0, 1) := by decide +kernel
theorem dX6_touches_31 : decode M_X6_touches.2.1 31 = .ok (.dup, 1) := by decide +kernel
theorem dX6_touches_32 : decode M_X6_touches.2.1 32 = .ok (.getfield 72, 3) := by decide +kernel
theorem dX6_touches_35 : decode M_X6_touches.2.1 35 = .ok (.iconst 1, 1) := by decide +kernel
theorem dX6_touches_36 : decode M_X6_touches.2.1 36 = .ok (.iadd, 1) := by decide +kernel
theorem dX6_touches_37 : decode M_X6_touches.2.1 37 = .ok (.putfield 72, 3) := by decide +kernel
theorem dX6_touches_40 : decode M_X6_touches.2.1 40 = .ok (.return_, 1) := by decide +kernel
theorem dX6_layBlock_0 : decode M_X6_layBlock.2.1 0 = .ok (.aload_n 0, 1) := by decide +kernel
theorem dX6_layBlock_1 : decode M_X6_layBlock.2.1 1 = .ok (.getfield 26, 3) := by decide +kernel
theorem dX6_layBlock_4 : decode M_X6_layBlock.2.1 4 = .ok (.iload_n 1, 1) := by decide +kernel
theorem dX6_layBlock_5 : decode M_X6_layBlock.2.1 5 = .ok (.iconst 0, 1) := by decide +kernel
theorem dX6_layBlock_6 : decode M_X6_layBlock.2.1 6 = .ok (.iastore, 1) := by decide +kernel
theorem dX6_layBlock_7 : decode M_X6_layBlock.2.1 7 = .ok (.aload_n 0, 1) := by decide +kernel
theorem dX6_layBlock_8 : decode M_X6_layBlock.2.1 8 = .ok (.getfield 29, 3) := by decide +kernel
theorem dX6_layBlock_11 : decode M_X6_layBlock.2.1 11 = .ok (.iload_n 1, 1) := by decide +kernel
theorem dX6_layBlock_12 : decode M_X6_layBlock.2.1 12 = .ok (.iconst 0, 1) := by decide +kernel
theorem dX6_layBlock_13 : decode M_X6_layBlock.2.1 13 = .ok (.iastore, 1) := by decide +kernel
theorem dX6_layBlock_14 : decode M_X6_layBlock.2.1 14 = .ok (.iconst 0, 1) := by decide +kernel
theorem dX6_layBlock_15 : decode M_X6_layBlock.2.1 15 = .ok (.istore_n 2, 1) := by decide +kernel
theorem dX6_layBlock_16 : decode M_X6_layBlock.2.1 16 = .ok (.iload_n 2, 1) := by decide +kernel
theorem dX6_layBlock_17 : decode M_X6_layBlock.2.1 17 = .ok (.iload_n 1, 1) := by decide +kernel
theorem dX6_layBlock_18 : decode M_X6_layBlock.2.1 18 = .ok (.if_icmp .ge 56, 3) := by decide +kernel
theorem dX6_layBlock_21 : decode M_X6_layBlock.2.1 21 = .ok (.aload_n 0, 1) := by decide +kernel
theorem dX6_layBlock_22 : decode M_X6_layBlock.2.1 22 = .ok (.getfield 26, 3) := by decide +kernel
theorem dX6_layBlock_25 : decode M_X6_layBlock.2.1 25 = .ok (.iload_n 1, 1) := by decide +kernel
theorem dX6_layBlock_26 : decode M_X6_layBlock.2.1 26 = .ok (.aload_n 0, 1) := by decide +kernel
theorem dX6_layBlock_27 : decode M_X6_layBlock.2.1 27 = .ok (.iload_n 2, 1) := by decide +kernel
theorem dX6_layBlock_28 : decode M_X6_layBlock.2.1 28 = .ok (.iload_n 1, 1) := by decide +kernel
theorem dX6_layBlock_29 : decode M_X6_layBlock.2.1 29 = .ok (.invokevirtual 76, 3) := by decide +kernel
theorem dX6_layBlock_32 : decode M_X6_layBlock.2.1 32 = .ok (.ifCond .eq 29, 3) := by decide +kernel
theorem dX6_layBlock_35 : decode M_X6_layBlock.2.1 35 = .ok (.aload_n 0, 1) := by decide +kernel
theorem dX6_layBlock_36 : decode M_X6_layBlock.2.1 36 = .ok (.getfield 26, 3) := by decide +kernel
theorem dX6_layBlock_39 : decode M_X6_layBlock.2.1 39 = .ok (.iload_n 2, 1) := by decide +kernel
theorem dX6_layBlock_40 : decode M_X6_layBlock.2.1 40 = .ok (.iaload, 1) := by decide +kernel
theorem dX6_layBlock_41 : decode M_X6_layBlock.2.1 41 = .ok (.aload_n 0, 1) := by decide +kernel
theorem dX6_layBlock_42 : decode M_X6_layBlock.2.1 42 = .ok (.getfield 26, 3) := by decide +kernel
theorem dX6_layBlock_45 : decode M_X6_layBlock.2.1 45 = .ok (.iload_n 1, 1) := by decide +kernel
theorem dX6_layBlock_46 : decode M_X6_layBlock.2.1 46 = .ok (.iaload, 1) := by decide +kernel
theorem dX6_layBlock_47 : decode M_X6_layBlock.2.1 47 = .ok (.if_icmp .lt 14, 3) := by decide +kernel
theorem dX6_layBlock_50 : decode M_X6_layBlock.2.1 50 = .ok (.aload_n 0, 1) := by decide +kernel
theorem dX6_layBlock_51 : decode M_X6_layBlock.2.1 51 = .ok (.getfield 26, 3) := by decide +kernel
theorem dX6_layBlock_54 : decode M_X6_layBlock.2.1 54 = .ok (.iload_n 2, 1) := by decide +kernel
theorem dX6_layBlock_55 : decode M_X6_layBlock.2.1 55 = .ok (.iaload, 1) := by decide +kernel
theorem dX6_layBlock_56 : decode M_X6_layBlock.2.1 56 = .ok (.iconst 1, 1) := by decide +kernel
theorem dX6_layBlock_57 : decode M_X6_layBlock.2.1 57 = .ok (.iadd, 1) := by decide +kernel
theorem dX6_layBlock_58 : decode M_X6_layBlock.2.1 58 = .ok (.goto 9, 3) := by decide +kernel
theorem dX6_layBlock_61 : decode M_X6_layBlock.2.1 61 = .ok (.aload_n 0, 1) := by decide +kernel
theorem dX6_layBlock_62 : decode M_X6_layBlock.2.1 62 = .ok (.getfield 26, 3) := by decide +kernel
theorem dX6_layBlock_65 : decode M_X6_layBlock.2.1 65 = .ok (.iload_n 1, 1) := by decide +kernel
theorem dX6_layBlock_66 : decode M_X6_layBlock.2.1 66 = .ok (.iaload, 1) := by decide +kernel
theorem dX6_layBlock_67 : decode M_X6_layBlock.2.1 67 = .ok (.iastore, 1) := by decide +kernel
theorem dX6_layBlock_68 : decode M_X6_layBlock.2.1 68 = .ok (.iinc 2 1, 3) := by decide +kernel
theorem dX6_layBlock_71 : decode M_X6_layBlock.2.1 71 = .ok (.goto (-55), 3) := by decide +kernel
theorem dX6_layBlock_74 : decode M_X6_layBlock.2.1 74 = .ok (.iconst 0, 1) := by decide +kernel
theorem dX6_layBlock_75 : decode M_X6_layBlock.2.1 75 = .ok (.istore_n 2, 1) := by decide +kernel
theorem dX6_layBlock_76 : decode M_X6_layBlock.2.1 76 = .ok (.iload_n 2, 1) := by decide +kernel
theorem dX6_layBlock_77 : decode M_X6_layBlock.2.1 77 = .ok (.iload_n 1, 1) := by decide +kernel
theorem dX6_layBlock_78 : decode M_X6_layBlock.2.1 78 = .ok (.if_icmp .ge 71, 3) := by decide +kernel
theorem dX6_layBlock_81 : decode M_X6_layBlock.2.1 81 = .ok (.aload_n 0, 1) := by decide +kernel
theorem dX6_layBlock_82 : decode M_X6_layBlock.2.1 82 = .ok (.iload_n 2, 1) := by decide +kernel
theorem dX6_layBlock_83 : decode M_X6_layBlock.2.1 83 = .ok (.iload_n 1, 1) := by decide +kernel
theorem dX6_layBlock_84 : decode M_X6_layBlock.2.1 84 = .ok (.invokevirtual 76, 3) := by decide +kernel
theorem dX6_layBlock_87 : decode M_X6_layBlock.2.1 87 = .ok (.ifCond .eq 56, 3) := by decide +kernel
theorem dX6_layBlock_90 : decode M_X6_layBlock.2.1 90 = .ok (.aload_n 0, 1) := by decide +kernel
theorem dX6_layBlock_91 : decode M_X6_layBlock.2.1 91 = .ok (.getfield 26, 3) := by decide +kernel
theorem dX6_layBlock_94 : decode M_X6_layBlock.2.1 94 = .ok (.iload_n 2, 1) := by decide +kernel
theorem dX6_layBlock_95 : decode M_X6_layBlock.2.1 95 = .ok (.iaload, 1) := by decide +kernel
theorem dX6_layBlock_96 : decode M_X6_layBlock.2.1 96 = .ok (.iconst 1, 1) := by decide +kernel
theorem dX6_layBlock_97 : decode M_X6_layBlock.2.1 97 = .ok (.iadd, 1) := by decide +kernel
theorem dX6_layBlock_98 : decode M_X6_layBlock.2.1 98 = .ok (.aload_n 0, 1) := by decide +kernel
theorem dX6_layBlock_99 : decode M_X6_layBlock.2.1 99 = .ok (.getfield 26, 3) := by decide +kernel
theorem dX6_layBlock_102 : decode M_X6_layBlock.2.1 102 = .ok (.iload_n 1, 1) := by decide +kernel
theorem dX6_layBlock_103 : decode M_X6_layBlock.2.1 103 = .ok (.iaload, 1) := by decide +kernel
theorem dX6_layBlock_104 : decode M_X6_layBlock.2.1 104 = .ok (.if_icmp .ne 39, 3) := by decide +kernel
theorem dX6_layBlock_107 : decode M_X6_layBlock.2.1 107 = .ok (.aload_n 0, 1) := by decide +kernel
theorem dX6_layBlock_108 : decode M_X6_layBlock.2.1 108 = .ok (.getfield 29, 3) := by decide +kernel
theorem dX6_layBlock_111 : decode M_X6_layBlock.2.1 111 = .ok (.iload_n 1, 1) := by decide +kernel
theorem dX6_layBlock_112 : decode M_X6_layBlock.2.1 112 = .ok (.dup2, 1) := by decide +kernel
theorem dX6_layBlock_113 : decode M_X6_layBlock.2.1 113 = .ok (.iaload, 1) := by decide +kernel
theorem dX6_layBlock_114 : decode M_X6_layBlock.2.1 114 = .ok (.iconst 1, 1) := by decide +kernel
theorem dX6_layBlock_115 : decode M_X6_layBlock.2.1 115 = .ok (.iload_n 2, 1) := by decide +kernel
theorem dX6_layBlock_116 : decode M_X6_layBlock.2.1 116 = .ok (.ishl, 1) := by decide +kernel
theorem dX6_layBlock_117 : decode M_X6_layBlock.2.1 117 = .ok (.ior, 1) := by decide +kernel
theorem dX6_layBlock_118 : decode M_X6_layBlock.2.1 118 = .ok (.iastore, 1) := by decide +kernel
theorem dX6_layBlock_119 : decode M_X6_layBlock.2.1 119 = .ok (.aload_n 0, 1) := by decide +kernel
theorem dX6_layBlock_120 : decode M_X6_layBlock.2.1 120 = .ok (.iload_n 1, 1) := by decide +kernel
theorem dX6_layBlock_121 : decode M_X6_layBlock.2.1 121 = .ok (.iload_n 2, 1) := by decide +kernel
theorem dX6_layBlock_122 : decode M_X6_layBlock.2.1 122 = .ok (.aload_n 0, 1) := by decide +kernel
theorem dX6_layBlock_123 : decode M_X6_layBlock.2.1 123 = .ok (.iload_n 2, 1) := by decide +kernel
theorem dX6_layBlock_124 : decode M_X6_layBlock.2.1 124 = .ok (.iload_n 1, 1) := by decide +kernel
theorem dX6_layBlock_125 : decode M_X6_layBlock.2.1 125 = .ok (.invokevirtual 66, 3) := by decide +kernel
theorem dX6_layBlock_128 : decode M_X6_layBlock.2.1 128 = .ok (.invokevirtual 80, 3) := by decide +kernel
theorem dX6_layBlock_131 : decode M_X6_layBlock.2.1 131 = .ok (.aload_n 0, 1) := by decide +kernel
theorem dX6_layBlock_132 : decode M_X6_layBlock.2.1 132 = .ok (.iload_n 1, 1) := by decide +kernel
theorem dX6_layBlock_133 : decode M_X6_layBlock.2.1 133 = .ok (.iload_n 2, 1) := by decide +kernel
theorem dX6_layBlock_134 : decode M_X6_layBlock.2.1 134 = .ok (.aload_n 0, 1) := by decide +kernel
theorem dX6_layBlock_135 : decode M_X6_layBlock.2.1 135 = .ok (.iload_n 2, 1) := by decide +kernel
theorem dX6_layBlock_136 : decode M_X6_layBlock.2.1 136 = .ok (.iload_n 1, 1) := by decide +kernel
theorem dX6_layBlock_137 : decode M_X6_layBlock.2.1 137 = .ok (.invokevirtual 69, 3) := by decide +kernel
theorem dX6_layBlock_140 : decode M_X6_layBlock.2.1 140 = .ok (.invokevirtual 80, 3) := by decide +kernel
theorem dX6_layBlock_143 : decode M_X6_layBlock.2.1 143 = .ok (.iinc 2 1, 3) := by decide +kernel
theorem dX6_layBlock_146 : decode M_X6_layBlock.2.1 146 = .ok (.goto (-70), 3) := by decide +kernel
theorem dX6_layBlock_149 : decode M_X6_layBlock.2.1 149 = .ok (.aload_n 0, 1) := by decide +kernel
theorem dX6_layBlock_150 : decode M_X6_layBlock.2.1 150 = .ok (.getfield 29, 3) := by decide +kernel
theorem dX6_layBlock_153 : decode M_X6_layBlock.2.1 153 = .ok (.iload_n 1, 1) := by decide +kernel
theorem dX6_layBlock_154 : decode M_X6_layBlock.2.1 154 = .ok (.iaload, 1) := by decide +kernel
theorem dX6_layBlock_155 : decode M_X6_layBlock.2.1 155 = .ok (.ifCond .ne 28, 3) := by decide +kernel
theorem dX6_layBlock_158 : decode M_X6_layBlock.2.1 158 = .ok (.aload_n 0, 1) := by decide +kernel
theorem dX6_layBlock_159 : decode M_X6_layBlock.2.1 159 = .ok (.iload_n 1, 1) := by decide +kernel
theorem dX6_layBlock_160 : decode M_X6_layBlock.2.1 160 = .ok (.bipush (-9), 2) := by decide +kernel
theorem dX6_layBlock_162 : decode M_X6_layBlock.2.1 162 = .ok (.aload_n 0, 1) := by decide +kernel
theorem dX6_layBlock_163 : decode M_X6_layBlock.2.1 163 = .ok (.iload_n 1, 1) := by decide +kernel
theorem dX6_layBlock_164 : decode M_X6_layBlock.2.1 164 = .ok (.iconst 1, 1) := by decide +kernel
theorem dX6_layBlock_165 : decode M_X6_layBlock.2.1 165 = .ok (.invokevirtual 58, 3) := by decide +kernel
theorem dX6_layBlock_168 : decode M_X6_layBlock.2.1 168 = .ok (.invokevirtual 80, 3) := by decide +kernel
theorem dX6_layBlock_171 : decode M_X6_layBlock.2.1 171 = .ok (.aload_n 0, 1) := by decide +kernel
theorem dX6_layBlock_172 : decode M_X6_layBlock.2.1 172 = .ok (.iload_n 1, 1) := by decide +kernel
theorem dX6_layBlock_173 : decode M_X6_layBlock.2.1 173 = .ok (.bipush (-9), 2) := by decide +kernel
theorem dX6_layBlock_175 : decode M_X6_layBlock.2.1 175 = .ok (.aload_n 0, 1) := by decide +kernel
theorem dX6_layBlock_176 : decode M_X6_layBlock.2.1 176 = .ok (.iload_n 1, 1) := by decide +kernel
theorem dX6_layBlock_177 : decode M_X6_layBlock.2.1 177 = .ok (.invokevirtual 62, 3) := by decide +kernel
theorem dX6_layBlock_180 : decode M_X6_layBlock.2.1 180 = .ok (.invokevirtual 80, 3) := by decide +kernel
theorem dX6_layBlock_183 : decode M_X6_layBlock.2.1 183 = .ok (.return_, 1) := by decide +kernel
theorem dX6_layAll_0 : decode M_X6_layAll.2.1 0 = .ok (.aload_n 0, 1) := by decide +kernel
theorem dX6_layAll_1 : decode M_X6_layAll.2.1 1 = .ok (.iconst 0, 1) := by decide +kernel
theorem dX6_layAll_2 : decode M_X6_layAll.2.1 2 = .ok (.putfield 72, 3) := by decide +kernel
theorem dX6_layAll_5 : decode M_X6_layAll.2.1 5 = .ok (.iconst 0, 1) := by decide +kernel
theorem dX6_layAll_6 : decode M_X6_layAll.2.1 6 = .ok (.istore_n 1, 1) := by decide +kernel
theorem dX6_layAll_7 : decode M_X6_layAll.2.1 7 = .ok (.iload_n 1, 1) := by decide +kernel
theorem dX6_layAll_8 : decode M_X6_layAll.2.1 8 = .ok (.aload_n 0, 1) := by decide +kernel
theorem dX6_layAll_9 : decode M_X6_layAll.2.1 9 = .ok (.invokevirtual 84, 3) := by decide +kernel
theorem dX6_layAll_12 : decode M_X6_layAll.2.1 12 = .ok (.if_icmp .ge 14, 3) := by decide +kernel
theorem dX6_layAll_15 : decode M_X6_layAll.2.1 15 = .ok (.aload_n 0, 1) := by decide +kernel
theorem dX6_layAll_16 : decode M_X6_layAll.2.1 16 = .ok (.iload_n 1, 1) := by decide +kernel
theorem dX6_layAll_17 : decode M_X6_layAll.2.1 17 = .ok (.invokevirtual 88, 3) := by decide +kernel
theorem dX6_layAll_20 : decode M_X6_layAll.2.1 20 = .ok (.iinc 1 1, 3) := by decide +kernel
theorem dX6_layAll_23 : decode M_X6_layAll.2.1 23 = .ok (.goto (-16), 3) := by decide +kernel
theorem dX6_layAll_26 : decode M_X6_layAll.2.1 26 = .ok (.return_, 1) := by decide +kernel
theorem dX6_above_0 : decode M_X6_above.2.1 0 = .ok (.iconst 0, 1) := by decide +kernel
theorem dX6_above_1 : decode M_X6_above.2.1 1 = .ok (.istore_n 2, 1) := by decide +kernel
theorem dX6_above_2 : decode M_X6_above.2.1 2 = .ok (.iconst 0, 1) := by decide +kernel
theorem dX6_above_3 : decode M_X6_above.2.1 3 = .ok (.istore_n 3, 1) := by decide +kernel
theorem dX6_above_4 : decode M_X6_above.2.1 4 = .ok (.iload_n 3, 1) := by decide +kernel
theorem dX6_above_5 : decode M_X6_above.2.1 5 = .ok (.aload_n 0, 1) := by decide +kernel
theorem dX6_above_6 : decode M_X6_above.2.1 6 = .ok (.invokevirtual 84, 3) := by decide +kernel
theorem dX6_above_9 : decode M_X6_above.2.1 9 = .ok (.if_icmp .ge 32, 3) := by decide +kernel
theorem dX6_above_12 : decode M_X6_above.2.1 12 = .ok (.iload_n 2, 1) := by decide +kernel
theorem dX6_above_13 : decode M_X6_above.2.1 13 = .ok (.aload_n 0, 1) := by decide +kernel
theorem dX6_above_14 : decode M_X6_above.2.1 14 = .ok (.getfield 29, 3) := by decide +kernel
theorem dX6_above_17 : decode M_X6_above.2.1 17 = .ok (.iload_n 3, 1) := by decide +kernel
theorem dX6_above_18 : decode M_X6_above.2.1 18 = .ok (.iaload, 1) := by decide +kernel
theorem dX6_above_19 : decode M_X6_above.2.1 19 = .ok (.iload_n 1, 1) := by decide +kernel
theorem dX6_above_20 : decode M_X6_above.2.1 20 = .ok (.invokestatic 92, 3) := by decide +kernel
theorem dX6_above_23 : decode M_X6_above.2.1 23 = .ok (.ifCond .eq 9, 3) := by decide +kernel
theorem dX6_above_26 : decode M_X6_above.2.1 26 = .ok (.iconst 1, 1) := by decide +kernel
theorem dX6_above_27 : decode M_X6_above.2.1 27 = .ok (.iload_n 3, 1) := by decide +kernel
theorem dX6_above_28 : decode M_X6_above.2.1 28 = .ok (.ishl, 1) := by decide +kernel
theorem dX6_above_29 : decode M_X6_above.2.1 29 = .ok (.goto 4, 3) := by decide +kernel
theorem dX6_above_32 : decode M_X6_above.2.1 32 = .ok (.iconst 0, 1) := by decide +kernel
theorem dX6_above_33 : decode M_X6_above.2.1 33 = .ok (.ior, 1) := by decide +kernel
theorem dX6_above_34 : decode M_X6_above.2.1 34 = .ok (.istore_n 2, 1) := by decide +kernel
theorem dX6_above_35 : decode M_X6_above.2.1 35 = .ok (.iinc 3 1, 3) := by decide +kernel
theorem dX6_above_38 : decode M_X6_above.2.1 38 = .ok (.goto (-34), 3) := by decide +kernel
theorem dX6_above_41 : decode M_X6_above.2.1 41 = .ok (.iload_n 2, 1) := by decide +kernel
theorem dX6_above_42 : decode M_X6_above.2.1 42 = .ok (.ireturn, 1) := by decide +kernel
theorem dX6_layRow_0 : decode M_X6_layRow.2.1 0 = .ok (.iconst 0, 1) := by decide +kernel
theorem dX6_layRow_1 : decode M_X6_layRow.2.1 1 = .ok (.istore 6, 2) := by decide +kernel
theorem dX6_layRow_3 : decode M_X6_layRow.2.1 3 = .ok (.iload 6, 2) := by decide +kernel
theorem dX6_layRow_5 : decode M_X6_layRow.2.1 5 = .ok (.aload_n 0, 1) := by decide +kernel
theorem dX6_layRow_6 : decode M_X6_layRow.2.1 6 = .ok (.getfield 72, 3) := by decide +kernel
theorem dX6_layRow_9 : decode M_X6_layRow.2.1 9 = .ok (.if_icmp .ge 91, 3) := by decide +kernel
theorem dX6_layRow_12 : decode M_X6_layRow.2.1 12 = .ok (.aload_n 0, 1) := by decide +kernel
theorem dX6_layRow_13 : decode M_X6_layRow.2.1 13 = .ok (.getfield 32, 3) := by decide +kernel
theorem dX6_layRow_16 : decode M_X6_layRow.2.1 16 = .ok (.iload 6, 2) := by decide +kernel
theorem dX6_layRow_18 : decode M_X6_layRow.2.1 18 = .ok (.iaload, 1) := by decide +kernel
theorem dX6_layRow_19 : decode M_X6_layRow.2.1 19 = .ok (.iload_n 1, 1) := by decide +kernel
theorem dX6_layRow_20 : decode M_X6_layRow.2.1 20 = .ok (.if_icmp .ne 7, 3) := by decide +kernel
theorem dX6_layRow_23 : decode M_X6_layRow.2.1 23 = .ok (.lconst 1, 1) := by decide +kernel
theorem dX6_layRow_24 : decode M_X6_layRow.2.1 24 = .ok (.goto 21, 3) := by decide +kernel
theorem dX6_layRow_27 : decode M_X6_layRow.2.1 27 = .ok (.aload_n 0, 1) := by decide +kernel
theorem dX6_layRow_28 : decode M_X6_layRow.2.1 28 = .ok (.getfield 35, 3) := by decide +kernel
theorem dX6_layRow_31 : decode M_X6_layRow.2.1 31 = .ok (.iload 6, 2) := by decide +kernel
theorem dX6_layRow_33 : decode M_X6_layRow.2.1 33 = .ok (.iaload, 1) := by decide +kernel
theorem dX6_layRow_34 : decode M_X6_layRow.2.1 34 = .ok (.iload_n 1, 1) := by decide +kernel
theorem dX6_layRow_35 : decode M_X6_layRow.2.1 35 = .ok (.if_icmp .ne 9, 3) := by decide +kernel
theorem dX6_layRow_38 : decode M_X6_layRow.2.1 38 = .ok (.ldc2_w 95, 3) := by decide +kernel
theorem dX6_layRow_41 : decode M_X6_layRow.2.1 41 = .ok (.goto 4, 3) := by decide +kernel
theorem dX6_layRow_44 : decode M_X6_layRow.2.1 44 = .ok (.lconst 0, 1) := by decide +kernel
theorem dX6_layRow_45 : decode M_X6_layRow.2.1 45 = .ok (.lstore 7, 2) := by decide +kernel
theorem dX6_layRow_47 : decode M_X6_layRow.2.1 47 = .ok (.aload_n 0, 1) := by decide +kernel
theorem dX6_layRow_48 : decode M_X6_layRow.2.1 48 = .ok (.getfield 41, 3) := by decide +kernel
theorem dX6_layRow_51 : decode M_X6_layRow.2.1 51 = .ok (.bipush 16, 2) := by decide +kernel
theorem dX6_layRow_53 : decode M_X6_layRow.2.1 53 = .ok (.iload_n 2, 1) := by decide +kernel
theorem dX6_layRow_54 : decode M_X6_layRow.2.1 54 = .ok (.imul, 1) := by decide +kernel
theorem dX6_layRow_55 : decode M_X6_layRow.2.1 55 = .ok (.iload 6, 2) := by decide +kernel
theorem dX6_layRow_57 : decode M_X6_layRow.2.1 57 = .ok (.iadd, 1) := by decide +kernel
theorem dX6_layRow_58 : decode M_X6_layRow.2.1 58 = .ok (.lload 7, 2) := by decide +kernel
theorem dX6_layRow_60 : decode M_X6_layRow.2.1 60 = .ok (.lastore, 1) := by decide +kernel
theorem dX6_layRow_61 : decode M_X6_layRow.2.1 61 = .ok (.aload_n 0, 1) := by decide +kernel
theorem dX6_layRow_62 : decode M_X6_layRow.2.1 62 = .ok (.getfield 41, 3) := by decide +kernel
theorem dX6_layRow_65 : decode M_X6_layRow.2.1 65 = .ok (.bipush 16, 2) := by decide +kernel
theorem dX6_layRow_67 : decode M_X6_layRow.2.1 67 = .ok (.iload_n 2, 1) := by decide +kernel
theorem dX6_layRow_68 : decode M_X6_layRow.2.1 68 = .ok (.imul, 1) := by decide +kernel
theorem dX6_layRow_69 : decode M_X6_layRow.2.1 69 = .ok (.bipush 16, 2) := by decide +kernel
theorem dX6_layRow_71 : decode M_X6_layRow.2.1 71 = .ok (.iadd, 1) := by decide +kernel
theorem dX6_layRow_72 : decode M_X6_layRow.2.1 72 = .ok (.iload 6, 2) := by decide +kernel
theorem dX6_layRow_74 : decode M_X6_layRow.2.1 74 = .ok (.iadd, 1) := by decide +kernel
theorem dX6_layRow_75 : decode M_X6_layRow.2.1 75 = .ok (.lload 7, 2) := by decide +kernel
theorem dX6_layRow_77 : decode M_X6_layRow.2.1 77 = .ok (.aload_n 0, 1) := by decide +kernel
theorem dX6_layRow_78 : decode M_X6_layRow.2.1 78 = .ok (.getfield 38, 3) := by decide +kernel
theorem dX6_layRow_81 : decode M_X6_layRow.2.1 81 = .ok (.iload 6, 2) := by decide +kernel
theorem dX6_layRow_83 : decode M_X6_layRow.2.1 83 = .ok (.iaload, 1) := by decide +kernel
theorem dX6_layRow_84 : decode M_X6_layRow.2.1 84 = .ok (.aload_n 0, 1) := by decide +kernel
theorem dX6_layRow_85 : decode M_X6_layRow.2.1 85 = .ok (.iload_n 1, 1) := by decide +kernel
theorem dX6_layRow_86 : decode M_X6_layRow.2.1 86 = .ok (.iconst 1, 1) := by decide +kernel
theorem dX6_layRow_87 : decode M_X6_layRow.2.1 87 = .ok (.invokevirtual 58, 3) := by decide +kernel
theorem dX6_layRow_90 : decode M_X6_layRow.2.1 90 = .ok (.isub, 1) := by decide +kernel
theorem dX6_layRow_91 : decode M_X6_layRow.2.1 91 = .ok (.i2l, 1) := by decide +kernel
theorem dX6_layRow_92 : decode M_X6_layRow.2.1 92 = .ok (.lmul, 1) := by decide +kernel
theorem dX6_layRow_93 : decode M_X6_layRow.2.1 93 = .ok (.lastore, 1) := by decide +kernel
theorem dX6_layRow_94 : decode M_X6_layRow.2.1 94 = .ok (.iinc 6 1, 3) := by decide +kernel
theorem dX6_layRow_97 : decode M_X6_layRow.2.1 97 = .ok (.goto (-94), 3) := by decide +kernel
theorem dX6_layRow_100 : decode M_X6_layRow.2.1 100 = .ok (.iload_n 3, 1) := by decide +kernel
theorem dX6_layRow_101 : decode M_X6_layRow.2.1 101 = .ok (.iload_n 1, 1) := by decide +kernel
theorem dX6_layRow_102 : decode M_X6_layRow.2.1 102 = .ok (.if_icmp .ne 7, 3) := by decide +kernel
theorem dX6_layRow_105 : decode M_X6_layRow.2.1 105 = .ok (.iconst 1, 1) := by decide +kernel
theorem dX6_layRow_106 : decode M_X6_layRow.2.1 106 = .ok (.goto 4, 3) := by decide +kernel
theorem dX6_layRow_109 : decode M_X6_layRow.2.1 109 = .ok (.iconst 0, 1) := by decide +kernel
theorem dX6_layRow_110 : decode M_X6_layRow.2.1 110 = .ok (.istore 6, 2) := by decide +kernel
theorem dX6_layRow_112 : decode M_X6_layRow.2.1 112 = .ok (.aload_n 0, 1) := by decide +kernel
theorem dX6_layRow_113 : decode M_X6_layRow.2.1 113 = .ok (.getfield 41, 3) := by decide +kernel
theorem dX6_layRow_116 : decode M_X6_layRow.2.1 116 = .ok (.bipush 16, 2) := by decide +kernel
theorem dX6_layRow_118 : decode M_X6_layRow.2.1 118 = .ok (.iload_n 2, 1) := by decide +kernel
theorem dX6_layRow_119 : decode M_X6_layRow.2.1 119 = .ok (.imul, 1) := by decide +kernel
theorem dX6_layRow_120 : decode M_X6_layRow.2.1 120 = .ok (.aload_n 0, 1) := by decide +kernel
theorem dX6_layRow_121 : decode M_X6_layRow.2.1 121 = .ok (.getfield 72, 3) := by decide +kernel
theorem dX6_layRow_124 : decode M_X6_layRow.2.1 124 = .ok (.iadd, 1) := by decide +kernel
theorem dX6_layRow_125 : decode M_X6_layRow.2.1 125 = .ok (.iload 6, 2) := by decide +kernel
theorem dX6_layRow_127 : decode M_X6_layRow.2.1 127 = .ok (.ifCond .eq 9, 3) := by decide +kernel
theorem dX6_layRow_130 : decode M_X6_layRow.2.1 130 = .ok (.ldc2_w 95, 3) := by decide +kernel
theorem dX6_layRow_133 : decode M_X6_layRow.2.1 133 = .ok (.goto 4, 3) := by decide +kernel
theorem dX6_layRow_136 : decode M_X6_layRow.2.1 136 = .ok (.lconst 0, 1) := by decide +kernel
theorem dX6_layRow_137 : decode M_X6_layRow.2.1 137 = .ok (.lastore, 1) := by decide +kernel
theorem dX6_layRow_138 : decode M_X6_layRow.2.1 138 = .ok (.aload_n 0, 1) := by decide +kernel
theorem dX6_layRow_139 : decode M_X6_layRow.2.1 139 = .ok (.getfield 41, 3) := by decide +kernel
theorem dX6_layRow_142 : decode M_X6_layRow.2.1 142 = .ok (.bipush 16, 2) := by decide +kernel
theorem dX6_layRow_144 : decode M_X6_layRow.2.1 144 = .ok (.iload_n 2, 1) := by decide +kernel
theorem dX6_layRow_145 : decode M_X6_layRow.2.1 145 = .ok (.imul, 1) := by decide +kernel
theorem dX6_layRow_146 : decode M_X6_layRow.2.1 146 = .ok (.bipush 16, 2) := by decide +kernel
theorem dX6_layRow_148 : decode M_X6_layRow.2.1 148 = .ok (.iadd, 1) := by decide +kernel
theorem dX6_layRow_149 : decode M_X6_layRow.2.1 149 = .ok (.aload_n 0, 1) := by decide +kernel
theorem dX6_layRow_150 : decode M_X6_layRow.2.1 150 = .ok (.getfield 72, 3) := by decide +kernel
theorem dX6_layRow_153 : decode M_X6_layRow.2.1 153 = .ok (.iadd, 1) := by decide +kernel
theorem dX6_layRow_154 : decode M_X6_layRow.2.1 154 = .ok (.iload 6, 2) := by decide +kernel
theorem dX6_layRow_156 : decode M_X6_layRow.2.1 156 = .ok (.ifCond .eq 10, 3) := by decide +kernel
theorem dX6_layRow_159 : decode M_X6_layRow.2.1 159 = .ok (.iload 4, 2) := by decide +kernel
theorem dX6_layRow_161 : decode M_X6_layRow.2.1 161 = .ok (.ineg, 1) := by decide +kernel
theorem dX6_layRow_162 : decode M_X6_layRow.2.1 162 = .ok (.i2l, 1) := by decide +kernel
theorem dX6_layRow_163 : decode M_X6_layRow.2.1 163 = .ok (.goto 4, 3) := by decide +kernel
theorem dX6_layRow_166 : decode M_X6_layRow.2.1 166 = .ok (.lconst 0, 1) := by decide +kernel
theorem dX6_layRow_167 : decode M_X6_layRow.2.1 167 = .ok (.lastore, 1) := by decide +kernel
theorem dX6_layRow_168 : decode M_X6_layRow.2.1 168 = .ok (.aload_n 0, 1) := by decide +kernel
theorem dX6_layRow_169 : decode M_X6_layRow.2.1 169 = .ok (.getfield 45, 3) := by decide +kernel
theorem dX6_layRow_172 : decode M_X6_layRow.2.1 172 = .ok (.iload_n 2, 1) := by decide +kernel
theorem dX6_layRow_173 : decode M_X6_layRow.2.1 173 = .ok (.iload 5, 2) := by decide +kernel
theorem dX6_layRow_175 : decode M_X6_layRow.2.1 175 = .ok (.ifCond .eq 16, 3) := by decide +kernel
theorem dX6_layRow_178 : decode M_X6_layRow.2.1 178 = .ok (.iload 6, 2) := by decide +kernel
theorem dX6_layRow_180 : decode M_X6_layRow.2.1 180 = .ok (.ifCond .eq 7, 3) := by decide +kernel
theorem dX6_layRow_183 : decode M_X6_layRow.2.1 183 = .ok (.lconst 1, 1) := by decide +kernel
theorem dX6_layRow_184 : decode M_X6_layRow.2.1 184 = .ok (.goto 21, 3) := by decide +kernel
theorem dX6_layRow_187 : decode M_X6_layRow.2.1 187 = .ok (.lconst 0, 1) := by decide +kernel
theorem dX6_layRow_188 : decode M_X6_layRow.2.1 188 = .ok (.goto 17, 3) := by decide +kernel
theorem dX6_layRow_191 : decode M_X6_layRow.2.1 191 = .ok (.aload_n 0, 1) := by decide +kernel
theorem dX6_layRow_192 : decode M_X6_layRow.2.1 192 = .ok (.iload_n 1, 1) := by decide +kernel
theorem dX6_layRow_193 : decode M_X6_layRow.2.1 193 = .ok (.iconst 3, 1) := by decide +kernel
theorem dX6_layRow_194 : decode M_X6_layRow.2.1 194 = .ok (.invokevirtual 58, 3) := by decide +kernel
theorem dX6_layRow_197 : decode M_X6_layRow.2.1 197 = .ok (.aload_n 0, 1) := by decide +kernel
theorem dX6_layRow_198 : decode M_X6_layRow.2.1 198 = .ok (.iload_n 1, 1) := by decide +kernel
theorem dX6_layRow_199 : decode M_X6_layRow.2.1 199 = .ok (.iconst 4, 1) := by decide +kernel
theorem dX6_layRow_200 : decode M_X6_layRow.2.1 200 = .ok (.invokevirtual 58, 3) := by decide +kernel
theorem dX6_layRow_203 : decode M_X6_layRow.2.1 203 = .ok (.iadd, 1) := by decide +kernel
theorem dX6_layRow_204 : decode M_X6_layRow.2.1 204 = .ok (.i2l, 1) := by decide +kernel
theorem dX6_layRow_205 : decode M_X6_layRow.2.1 205 = .ok (.lastore, 1) := by decide +kernel
theorem dX6_layRow_206 : decode M_X6_layRow.2.1 206 = .ok (.aload_n 0, 1) := by decide +kernel
theorem dX6_layRow_207 : decode M_X6_layRow.2.1 207 = .ok (.getfield 45, 3) := by decide +kernel
theorem dX6_layRow_210 : decode M_X6_layRow.2.1 210 = .ok (.iload_n 2, 1) := by decide +kernel
theorem dX6_layRow_211 : decode M_X6_layRow.2.1 211 = .ok (.iconst 1, 1) := by decide +kernel
theorem dX6_layRow_212 : decode M_X6_layRow.2.1 212 = .ok (.iadd, 1) := by decide +kernel
theorem dX6_layRow_213 : decode M_X6_layRow.2.1 213 = .ok (.iload 5, 2) := by decide +kernel
theorem dX6_layRow_215 : decode M_X6_layRow.2.1 215 = .ok (.ifCond .eq 18, 3) := by decide +kernel
theorem dX6_layRow_218 : decode M_X6_layRow.2.1 218 = .ok (.iload 6, 2) := by decide +kernel
theorem dX6_layRow_220 : decode M_X6_layRow.2.1 220 = .ok (.ifCond .eq 9, 3) := by decide +kernel
theorem dX6_layRow_223 : decode M_X6_layRow.2.1 223 = .ok (.iload 4, 2) := by decide +kernel
theorem dX6_layRow_225 : decode M_X6_layRow.2.1 225 = .ok (.i2l, 1) := by decide +kernel
theorem dX6_layRow_226 : decode M_X6_layRow.2.1 226 = .ok (.goto 35, 3) := by decide +kernel
theorem dX6_layRow_229 : decode M_X6_layRow.2.1 229 = .ok (.lconst 0, 1) := by decide +kernel
theorem dX6_layRow_230 : decode M_X6_layRow.2.1 230 = .ok (.goto 31, 3) := by decide +kernel
theorem dX6_layRow_233 : decode M_X6_layRow.2.1 233 = .ok (.aload_n 0, 1) := by decide +kernel
theorem dX6_layRow_234 : decode M_X6_layRow.2.1 234 = .ok (.iload_n 1, 1) := by decide +kernel
theorem dX6_layRow_235 : decode M_X6_layRow.2.1 235 = .ok (.iconst 3, 1) := by decide +kernel
theorem dX6_layRow_236 : decode M_X6_layRow.2.1 236 = .ok (.invokevirtual 58, 3) := by decide +kernel
theorem dX6_layRow_239 : decode M_X6_layRow.2.1 239 = .ok (.aload_n 0, 1) := by decide +kernel
theorem dX6_layRow_240 : decode M_X6_layRow.2.1 240 = .ok (.iload_n 1, 1) := by decide +kernel
theorem dX6_layRow_241 : decode M_X6_layRow.2.1 241 = .ok (.iconst 2, 1) := by decide +kernel
theorem dX6_layRow_242 : decode M_X6_layRow.2.1 242 = .ok (.invokevirtual 58, 3) := by decide +kernel
theorem dX6_layRow_245 : decode M_X6_layRow.2.1 245 = .ok (.imul, 1) := by decide +kernel
theorem dX6_layRow_246 : decode M_X6_layRow.2.1 246 = .ok (.aload_n 0, 1) := by decide +kernel
theorem dX6_layRow_247 : decode M_X6_layRow.2.1 247 = .ok (.iload_n 1, 1) := by decide +kernel
theorem dX6_layRow_248 : decode M_X6_layRow.2.1 248 = .ok (.iconst 4, 1) := by decide +kernel
theorem dX6_layRow_249 : decode M_X6_layRow.2.1 249 = .ok (.invokevirtual 58, 3) := by decide +kernel
theorem dX6_layRow_252 : decode M_X6_layRow.2.1 252 = .ok (.aload_n 0, 1) := by decide +kernel
theorem dX6_layRow_253 : decode M_X6_layRow.2.1 253 = .ok (.iload_n 1, 1) := by decide +kernel
theorem dX6_layRow_254 : decode M_X6_layRow.2.1 254 = .ok (.iconst 5, 1) := by decide +kernel
theorem dX6_layRow_255 : decode M_X6_layRow.2.1 255 = .ok (.invokevirtual 58, 3) := by decide +kernel
theorem dX6_layRow_258 : decode M_X6_layRow.2.1 258 = .ok (.imul, 1) := by decide +kernel
theorem dX6_layRow_259 : decode M_X6_layRow.2.1 259 = .ok (.iadd, 1) := by decide +kernel
theorem dX6_layRow_260 : decode M_X6_layRow.2.1 260 = .ok (.i2l, 1) := by decide +kernel
theorem dX6_layRow_261 : decode M_X6_layRow.2.1 261 = .ok (.lastore, 1) := by decide +kernel
theorem dX6_layRow_262 : decode M_X6_layRow.2.1 262 = .ok (.return_, 1) := by decide +kernel
theorem dX6_layRows_0 : decode M_X6_layRows.2.1 0 = .ok (.aload_n 0, 1) := by decide +kernel
theorem dX6_layRows_1 : decode M_X6_layRows.2.1 1 = .ok (.iconst 0, 1) := by decide +kernel
theorem dX6_layRows_2 : decode M_X6_layRows.2.1 2 = .ok (.putfield 97, 3) := by decide +kernel
theorem dX6_layRows_5 : decode M_X6_layRows.2.1 5 = .ok (.iconst 0, 1) := by decide +kernel
theorem dX6_layRows_6 : decode M_X6_layRows.2.1 6 = .ok (.istore 5, 2) := by decide +kernel
theorem dX6_layRows_8 : decode M_X6_layRows.2.1 8 = .ok (.iload 5, 2) := by decide +kernel
theorem dX6_layRows_10 : decode M_X6_layRows.2.1 10 = .ok (.aload_n 0, 1) := by decide +kernel
theorem dX6_layRows_11 : decode M_X6_layRows.2.1 11 = .ok (.invokevirtual 84, 3) := by decide +kernel
theorem dX6_layRows_14 : decode M_X6_layRows.2.1 14 = .ok (.if_icmp .ge 42, 3) := by decide +kernel
theorem dX6_layRows_17 : decode M_X6_layRows.2.1 17 = .ok (.iload_n 1, 1) := by decide +kernel
theorem dX6_layRows_18 : decode M_X6_layRows.2.1 18 = .ok (.iload 5, 2) := by decide +kernel
theorem dX6_layRows_20 : decode M_X6_layRows.2.1 20 = .ok (.invokestatic 92, 3) := by decide +kernel
theorem dX6_layRows_23 : decode M_X6_layRows.2.1 23 = .ok (.ifCond .eq 27, 3) := by decide +kernel
theorem dX6_layRows_26 : decode M_X6_layRows.2.1 26 = .ok (.aload_n 0, 1) := by decide +kernel
theorem dX6_layRows_27 : decode M_X6_layRows.2.1 27 = .ok (.iload 5, 2) := by decide +kernel
theorem dX6_layRows_29 : decode M_X6_layRows.2.1 29 = .ok (.aload_n 0, 1) := by decide +kernel
theorem dX6_layRows_30 : decode M_X6_layRows.2.1 30 = .ok (.getfield 97, 3) := by decide +kernel
theorem dX6_layRows_33 : decode M_X6_layRows.2.1 33 = .ok (.iload_n 2, 1) := by decide +kernel
theorem dX6_layRows_34 : decode M_X6_layRows.2.1 34 = .ok (.iload_n 3, 1) := by decide +kernel
theorem dX6_layRows_35 : decode M_X6_layRows.2.1 35 = .ok (.iload 4, 2) := by decide +kernel
theorem dX6_layRows_37 : decode M_X6_layRows.2.1 37 = .ok (.invokevirtual 100, 3) := by decide +kernel
theorem dX6_layRows_40 : decode M_X6_layRows.2.1 40 = .ok (.aload_n 0, 1) := by decide +kernel
theorem dX6_layRows_41 : decode M_X6_layRows.2.1 41 = .ok (.dup, 1) := by decide +kernel
theorem dX6_layRows_42 : decode M_X6_layRows.2.1 42 = .ok (.getfield 97, 3) := by decide +kernel
theorem dX6_layRows_45 : decode M_X6_layRows.2.1 45 = .ok (.iconst 2, 1) := by decide +kernel
theorem dX6_layRows_46 : decode M_X6_layRows.2.1 46 = .ok (.iadd, 1) := by decide +kernel
theorem dX6_layRows_47 : decode M_X6_layRows.2.1 47 = .ok (.putfield 97, 3) := by decide +kernel
theorem dX6_layRows_50 : decode M_X6_layRows.2.1 50 = .ok (.iinc 5 1, 3) := by decide +kernel
theorem dX6_layRows_53 : decode M_X6_layRows.2.1 53 = .ok (.goto (-45), 3) := by decide +kernel
theorem dX6_layRows_56 : decode M_X6_layRows.2.1 56 = .ok (.aload_n 0, 1) := by decide +kernel
theorem dX6_layRows_57 : decode M_X6_layRows.2.1 57 = .ok (.aload_n 0, 1) := by decide +kernel
theorem dX6_layRows_58 : decode M_X6_layRows.2.1 58 = .ok (.getfield 72, 3) := by decide +kernel
theorem dX6_layRows_61 : decode M_X6_layRows.2.1 61 = .ok (.iload_n 2, 1) := by decide +kernel
theorem dX6_layRows_62 : decode M_X6_layRows.2.1 62 = .ok (.bipush (-9), 2) := by decide +kernel
theorem dX6_layRows_64 : decode M_X6_layRows.2.1 64 = .ok (.if_icmp .eq 12, 3) := by decide +kernel
theorem dX6_layRows_67 : decode M_X6_layRows.2.1 67 = .ok (.iload 4, 2) := by decide +kernel
theorem dX6_layRows_69 : decode M_X6_layRows.2.1 69 = .ok (.ifCond .ne 7, 3) := by decide +kernel
theorem dX6_layRows_72 : decode M_X6_layRows.2.1 72 = .ok (.iconst 1, 1) := by decide +kernel
theorem dX6_layRows_73 : decode M_X6_layRows.2.1 73 = .ok (.goto 4, 3) := by decide +kernel
theorem dX6_layRows_76 : decode M_X6_layRows.2.1 76 = .ok (.iconst 0, 1) := by decide +kernel
theorem dX6_layRows_77 : decode M_X6_layRows.2.1 77 = .ok (.iadd, 1) := by decide +kernel
theorem dX6_layRows_78 : decode M_X6_layRows.2.1 78 = .ok (.putfield 104, 3) := by decide +kernel
theorem dX6_layRows_81 : decode M_X6_layRows.2.1 81 = .ok (.return_, 1) := by decide +kernel
theorem dX6_swaps_0 : decode M_X6_swaps.2.1 0 = .ok (.iconst 0, 1) := by decide +kernel
theorem dX6_swaps_1 : decode M_X6_swaps.2.1 1 = .ok (.istore_n 3, 1) := by decide +kernel
theorem dX6_swaps_2 : decode M_X6_swaps.2.1 2 = .ok (.iload_n 3, 1) := by decide +kernel
theorem dX6_swaps_3 : decode M_X6_swaps.2.1 3 = .ok (.aload_n 0, 1) := by decide +kernel
theorem dX6_swaps_4 : decode M_X6_swaps.2.1 4 = .ok (.getfield 97, 3) := by decide +kernel
theorem dX6_swaps_7 : decode M_X6_swaps.2.1 7 = .ok (.if_icmp .gt 57, 3) := by decide +kernel
theorem dX6_swaps_10 : decode M_X6_swaps.2.1 10 = .ok (.aload_n 0, 1) := by decide +kernel
theorem dX6_swaps_11 : decode M_X6_swaps.2.1 11 = .ok (.getfield 48, 3) := by decide +kernel
theorem dX6_swaps_14 : decode M_X6_swaps.2.1 14 = .ok (.bipush 9, 2) := by decide +kernel
theorem dX6_swaps_16 : decode M_X6_swaps.2.1 16 = .ok (.iload_n 1, 1) := by decide +kernel
theorem dX6_swaps_17 : decode M_X6_swaps.2.1 17 = .ok (.imul, 1) := by decide +kernel
theorem dX6_swaps_18 : decode M_X6_swaps.2.1 18 = .ok (.iload_n 3, 1) := by decide +kernel
theorem dX6_swaps_19 : decode M_X6_swaps.2.1 19 = .ok (.iadd, 1) := by decide +kernel
theorem dX6_swaps_20 : decode M_X6_swaps.2.1 20 = .ok (.laload, 1) := by decide +kernel
theorem dX6_swaps_21 : decode M_X6_swaps.2.1 21 = .ok (.lstore 4, 2) := by decide +kernel
theorem dX6_swaps_23 : decode M_X6_swaps.2.1 23 = .ok (.aload_n 0, 1) := by decide +kernel
theorem dX6_swaps_24 : decode M_X6_swaps.2.1 24 = .ok (.getfield 48, 3) := by decide +kernel
theorem dX6_swaps_27 : decode M_X6_swaps.2.1 27 = .ok (.bipush 9, 2) := by decide +kernel
theorem dX6_swaps_29 : decode M_X6_swaps.2.1 29 = .ok (.iload_n 1, 1) := by decide +kernel
theorem dX6_swaps_30 : decode M_X6_swaps.2.1 30 = .ok (.imul, 1) := by decide +kernel
theorem dX6_swaps_31 : decode M_X6_swaps.2.1 31 = .ok (.iload_n 3, 1) := by decide +kernel
theorem dX6_swaps_32 : decode M_X6_swaps.2.1 32 = .ok (.iadd, 1) := by decide +kernel
theorem dX6_swaps_33 : decode M_X6_swaps.2.1 33 = .ok (.aload_n 0, 1) := by decide +kernel
theorem dX6_swaps_34 : decode M_X6_swaps.2.1 34 = .ok (.getfield 48, 3) := by decide +kernel
theorem dX6_swaps_37 : decode M_X6_swaps.2.1 37 = .ok (.bipush 9, 2) := by decide +kernel
theorem dX6_swaps_39 : decode M_X6_swaps.2.1 39 = .ok (.iload_n 2, 1) := by decide +kernel
theorem dX6_swaps_40 : decode M_X6_swaps.2.1 40 = .ok (.imul, 1) := by decide +kernel
theorem dX6_swaps_41 : decode M_X6_swaps.2.1 41 = .ok (.iload_n 3, 1) := by decide +kernel
theorem dX6_swaps_42 : decode M_X6_swaps.2.1 42 = .ok (.iadd, 1) := by decide +kernel
theorem dX6_swaps_43 : decode M_X6_swaps.2.1 43 = .ok (.laload, 1) := by decide +kernel
theorem dX6_swaps_44 : decode M_X6_swaps.2.1 44 = .ok (.lastore, 1) := by decide +kernel
theorem dX6_swaps_45 : decode M_X6_swaps.2.1 45 = .ok (.aload_n 0, 1) := by decide +kernel
theorem dX6_swaps_46 : decode M_X6_swaps.2.1 46 = .ok (.getfield 48, 3) := by decide +kernel
theorem dX6_swaps_49 : decode M_X6_swaps.2.1 49 = .ok (.bipush 9, 2) := by decide +kernel
theorem dX6_swaps_51 : decode M_X6_swaps.2.1 51 = .ok (.iload_n 2, 1) := by decide +kernel
theorem dX6_swaps_52 : decode M_X6_swaps.2.1 52 = .ok (.imul, 1) := by decide +kernel
theorem dX6_swaps_53 : decode M_X6_swaps.2.1 53 = .ok (.iload_n 3, 1) := by decide +kernel
theorem dX6_swaps_54 : decode M_X6_swaps.2.1 54 = .ok (.iadd, 1) := by decide +kernel
theorem dX6_swaps_55 : decode M_X6_swaps.2.1 55 = .ok (.lload 4, 2) := by decide +kernel
theorem dX6_swaps_57 : decode M_X6_swaps.2.1 57 = .ok (.lastore, 1) := by decide +kernel
theorem dX6_swaps_58 : decode M_X6_swaps.2.1 58 = .ok (.iinc 3 1, 3) := by decide +kernel
theorem dX6_swaps_61 : decode M_X6_swaps.2.1 61 = .ok (.goto (-59), 3) := by decide +kernel
theorem dX6_swaps_64 : decode M_X6_swaps.2.1 64 = .ok (.return_, 1) := by decide +kernel
theorem dX6_clears_0 : decode M_X6_clears.2.1 0 = .ok (.aload_n 0, 1) := by decide +kernel
theorem dX6_clears_1 : decode M_X6_clears.2.1 1 = .ok (.getfield 48, 3) := by decide +kernel
theorem dX6_clears_4 : decode M_X6_clears.2.1 4 = .ok (.bipush 9, 2) := by decide +kernel
theorem dX6_clears_6 : decode M_X6_clears.2.1 6 = .ok (.iload_n 2, 1) := by decide +kernel
theorem dX6_clears_7 : decode M_X6_clears.2.1 7 = .ok (.imul, 1) := by decide +kernel
theorem dX6_clears_8 : decode M_X6_clears.2.1 8 = .ok (.iload_n 2, 1) := by decide +kernel
theorem dX6_clears_9 : decode M_X6_clears.2.1 9 = .ok (.iadd, 1) := by decide +kernel
theorem dX6_clears_10 : decode M_X6_clears.2.1 10 = .ok (.laload, 1) := by decide +kernel
theorem dX6_clears_11 : decode M_X6_clears.2.1 11 = .ok (.lstore 5, 2) := by decide +kernel
theorem dX6_clears_13 : decode M_X6_clears.2.1 13 = .ok (.aload_n 0, 1) := by decide +kernel
theorem dX6_clears_14 : decode M_X6_clears.2.1 14 = .ok (.getfield 48, 3) := by decide +kernel
theorem dX6_clears_17 : decode M_X6_clears.2.1 17 = .ok (.bipush 9, 2) := by decide +kernel
theorem dX6_clears_19 : decode M_X6_clears.2.1 19 = .ok (.iload_n 1, 1) := by decide +kernel
theorem dX6_clears_20 : decode M_X6_clears.2.1 20 = .ok (.imul, 1) := by decide +kernel
theorem dX6_clears_21 : decode M_X6_clears.2.1 21 = .ok (.iload_n 2, 1) := by decide +kernel
theorem dX6_clears_22 : decode M_X6_clears.2.1 22 = .ok (.iadd, 1) := by decide +kernel
theorem dX6_clears_23 : decode M_X6_clears.2.1 23 = .ok (.laload, 1) := by decide +kernel
theorem dX6_clears_24 : decode M_X6_clears.2.1 24 = .ok (.lstore 7, 2) := by decide +kernel
theorem dX6_clears_26 : decode M_X6_clears.2.1 26 = .ok (.iconst 0, 1) := by decide +kernel
theorem dX6_clears_27 : decode M_X6_clears.2.1 27 = .ok (.istore 9, 2) := by decide +kernel
theorem dX6_clears_29 : decode M_X6_clears.2.1 29 = .ok (.iload 9, 2) := by decide +kernel
theorem dX6_clears_31 : decode M_X6_clears.2.1 31 = .ok (.aload_n 0, 1) := by decide +kernel
theorem dX6_clears_32 : decode M_X6_clears.2.1 32 = .ok (.getfield 97, 3) := by decide +kernel
theorem dX6_clears_35 : decode M_X6_clears.2.1 35 = .ok (.if_icmp .gt 54, 3) := by decide +kernel
theorem dX6_clears_38 : decode M_X6_clears.2.1 38 = .ok (.aload_n 0, 1) := by decide +kernel
theorem dX6_clears_39 : decode M_X6_clears.2.1 39 = .ok (.getfield 48, 3) := by decide +kernel
theorem dX6_clears_42 : decode M_X6_clears.2.1 42 = .ok (.bipush 9, 2) := by decide +kernel
theorem dX6_clears_44 : decode M_X6_clears.2.1 44 = .ok (.iload_n 1, 1) := by decide +kernel
theorem dX6_clears_45 : decode M_X6_clears.2.1 45 = .ok (.imul, 1) := by decide +kernel
theorem dX6_clears_46 : decode M_X6_clears.2.1 46 = .ok (.iload 9, 2) := by decide +kernel
theorem dX6_clears_48 : decode M_X6_clears.2.1 48 = .ok (.iadd, 1) := by decide +kernel
theorem dX6_clears_49 : decode M_X6_clears.2.1 49 = .ok (.lload 5, 2) := by decide +kernel
theorem dX6_clears_51 : decode M_X6_clears.2.1 51 = .ok (.aload_n 0, 1) := by decide +kernel
theorem dX6_clears_52 : decode M_X6_clears.2.1 52 = .ok (.getfield 48, 3) := by decide +kernel
theorem dX6_clears_55 : decode M_X6_clears.2.1 55 = .ok (.bipush 9, 2) := by decide +kernel
theorem dX6_clears_57 : decode M_X6_clears.2.1 57 = .ok (.iload_n 1, 1) := by decide +kernel
theorem dX6_clears_58 : decode M_X6_clears.2.1 58 = .ok (.imul, 1) := by decide +kernel
theorem dX6_clears_59 : decode M_X6_clears.2.1 59 = .ok (.iload 9, 2) := by decide +kernel
theorem dX6_clears_61 : decode M_X6_clears.2.1 61 = .ok (.iadd, 1) := by decide +kernel
theorem dX6_clears_62 : decode M_X6_clears.2.1 62 = .ok (.laload, 1) := by decide +kernel
theorem dX6_clears_63 : decode M_X6_clears.2.1 63 = .ok (.lmul, 1) := by decide +kernel
theorem dX6_clears_64 : decode M_X6_clears.2.1 64 = .ok (.lload 7, 2) := by decide +kernel
theorem dX6_clears_66 : decode M_X6_clears.2.1 66 = .ok (.aload_n 0, 1) := by decide +kernel
theorem dX6_clears_67 : decode M_X6_clears.2.1 67 = .ok (.getfield 48, 3) := by decide +kernel
theorem dX6_clears_70 : decode M_X6_clears.2.1 70 = .ok (.bipush 9, 2) := by decide +kernel
theorem dX6_clears_72 : decode M_X6_clears.2.1 72 = .ok (.iload_n 2, 1) := by decide +kernel
theorem dX6_clears_73 : decode M_X6_clears.2.1 73 = .ok (.imul, 1) := by decide +kernel
theorem dX6_clears_74 : decode M_X6_clears.2.1 74 = .ok (.iload 9, 2) := by decide +kernel
theorem dX6_clears_76 : decode M_X6_clears.2.1 76 = .ok (.iadd, 1) := by decide +kernel
theorem dX6_clears_77 : decode M_X6_clears.2.1 77 = .ok (.laload, 1) := by decide +kernel
theorem dX6_clears_78 : decode M_X6_clears.2.1 78 = .ok (.lmul, 1) := by decide +kernel
theorem dX6_clears_79 : decode M_X6_clears.2.1 79 = .ok (.lsub, 1) := by decide +kernel
theorem dX6_clears_80 : decode M_X6_clears.2.1 80 = .ok (.lload_n 3, 1) := by decide +kernel
theorem dX6_clears_81 : decode M_X6_clears.2.1 81 = .ok (.ldiv, 1) := by decide +kernel
theorem dX6_clears_82 : decode M_X6_clears.2.1 82 = .ok (.lastore, 1) := by decide +kernel
theorem dX6_clears_83 : decode M_X6_clears.2.1 83 = .ok (.iinc 9 1, 3) := by decide +kernel
theorem dX6_clears_86 : decode M_X6_clears.2.1 86 = .ok (.goto (-57), 3) := by decide +kernel
theorem dX6_clears_89 : decode M_X6_clears.2.1 89 = .ok (.return_, 1) := by decide +kernel
theorem dX6_pivot_0 : decode M_X6_pivot.2.1 0 = .ok (.bipush (-9), 2) := by decide +kernel
theorem dX6_pivot_2 : decode M_X6_pivot.2.1 2 = .ok (.istore_n 2, 1) := by decide +kernel
theorem dX6_pivot_3 : decode M_X6_pivot.2.1 3 = .ok (.aload_n 0, 1) := by decide +kernel
theorem dX6_pivot_4 : decode M_X6_pivot.2.1 4 = .ok (.getfield 97, 3) := by decide +kernel
theorem dX6_pivot_7 : decode M_X6_pivot.2.1 7 = .ok (.iconst 1, 1) := by decide +kernel
theorem dX6_pivot_8 : decode M_X6_pivot.2.1 8 = .ok (.isub, 1) := by decide +kernel
theorem dX6_pivot_9 : decode M_X6_pivot.2.1 9 = .ok (.istore_n 3, 1) := by decide +kernel
theorem dX6_pivot_10 : decode M_X6_pivot.2.1 10 = .ok (.iload_n 3, 1) := by decide +kernel
theorem dX6_pivot_11 : decode M_X6_pivot.2.1 11 = .ok (.iload_n 1, 1) := by decide +kernel
theorem dX6_pivot_12 : decode M_X6_pivot.2.1 12 = .ok (.if_icmp .lt 31, 3) := by decide +kernel
theorem dX6_pivot_15 : decode M_X6_pivot.2.1 15 = .ok (.aload_n 0, 1) := by decide +kernel
theorem dX6_pivot_16 : decode M_X6_pivot.2.1 16 = .ok (.getfield 48, 3) := by decide +kernel
theorem dX6_pivot_19 : decode M_X6_pivot.2.1 19 = .ok (.bipush 9, 2) := by decide +kernel
theorem dX6_pivot_21 : decode M_X6_pivot.2.1 21 = .ok (.iload_n 3, 1) := by decide +kernel
theorem dX6_pivot_22 : decode M_X6_pivot.2.1 22 = .ok (.imul, 1) := by decide +kernel
theorem dX6_pivot_23 : decode M_X6_pivot.2.1 23 = .ok (.iload_n 1, 1) := by decide +kernel
theorem dX6_pivot_24 : decode M_X6_pivot.2.1 24 = .ok (.iadd, 1) := by decide +kernel
theorem dX6_pivot_25 : decode M_X6_pivot.2.1 25 = .ok (.laload, 1) := by decide +kernel
theorem dX6_pivot_26 : decode M_X6_pivot.2.1 26 = .ok (.lconst 0, 1) := by decide +kernel
theorem dX6_pivot_27 : decode M_X6_pivot.2.1 27 = .ok (.lcmp, 1) := by decide +kernel
theorem dX6_pivot_28 : decode M_X6_pivot.2.1 28 = .ok (.ifCond .eq 7, 3) := by decide +kernel
theorem dX6_pivot_31 : decode M_X6_pivot.2.1 31 = .ok (.iload_n 3, 1) := by decide +kernel
theorem dX6_pivot_32 : decode M_X6_pivot.2.1 32 = .ok (.goto 4, 3) := by decide +kernel
theorem dX6_pivot_35 : decode M_X6_pivot.2.1 35 = .ok (.iload_n 2, 1) := by decide +kernel
theorem dX6_pivot_36 : decode M_X6_pivot.2.1 36 = .ok (.istore_n 2, 1) := by decide +kernel
theorem dX6_pivot_37 : decode M_X6_pivot.2.1 37 = .ok (.iinc 3 (-1), 3) := by decide +kernel
theorem dX6_pivot_40 : decode M_X6_pivot.2.1 40 = .ok (.goto (-30), 3) := by decide +kernel
theorem dX6_pivot_43 : decode M_X6_pivot.2.1 43 = .ok (.iload_n 2, 1) := by decide +kernel
theorem dX6_pivot_44 : decode M_X6_pivot.2.1 44 = .ok (.ireturn, 1) := by decide +kernel
theorem dX6_fills_0 : decode M_X6_fills.2.1 0 = .ok (.iconst 0, 1) := by decide +kernel
theorem dX6_fills_1 : decode M_X6_fills.2.1 1 = .ok (.istore_n 2, 1) := by decide +kernel
theorem dX6_fills_2 : decode M_X6_fills.2.1 2 = .ok (.iconst 0, 1) := by decide +kernel
theorem dX6_fills_3 : decode M_X6_fills.2.1 3 = .ok (.istore_n 3, 1) := by decide +kernel
theorem dX6_fills_4 : decode M_X6_fills.2.1 4 = .ok (.iload_n 3, 1) := by decide +kernel
theorem dX6_fills_5 : decode M_X6_fills.2.1 5 = .ok (.aload_n 0, 1) := by decide +kernel
theorem dX6_fills_6 : decode M_X6_fills.2.1 6 = .ok (.getfield 104, 3) := by decide +kernel
theorem dX6_fills_9 : decode M_X6_fills.2.1 9 = .ok (.if_icmp .ge 62, 3) := by decide +kernel
theorem dX6_fills_12 : decode M_X6_fills.2.1 12 = .ok (.iload_n 1, 1) := by decide +kernel
theorem dX6_fills_13 : decode M_X6_fills.2.1 13 = .ok (.iload_n 3, 1) := by decide +kernel
theorem dX6_fills_14 : decode M_X6_fills.2.1 14 = .ok (.invokestatic 92, 3) := by decide +kernel
theorem dX6_fills_17 : decode M_X6_fills.2.1 17 = .ok (.ifCond .eq 48, 3) := by decide +kernel
theorem dX6_fills_20 : decode M_X6_fills.2.1 20 = .ok (.iconst 0, 1) := by decide +kernel
theorem dX6_fills_21 : decode M_X6_fills.2.1 21 = .ok (.istore 4, 2) := by decide +kernel
theorem dX6_fills_23 : decode M_X6_fills.2.1 23 = .ok (.iload 4, 2) := by decide +kernel
theorem dX6_fills_25 : decode M_X6_fills.2.1 25 = .ok (.aload_n 0, 1) := by decide +kernel
theorem dX6_fills_26 : decode M_X6_fills.2.1 26 = .ok (.getfield 97, 3) := by decide +kernel
theorem dX6_fills_29 : decode M_X6_fills.2.1 29 = .ok (.if_icmp .ge 33, 3) := by decide +kernel
theorem dX6_fills_32 : decode M_X6_fills.2.1 32 = .ok (.aload_n 0, 1) := by decide +kernel
theorem dX6_fills_33 : decode M_X6_fills.2.1 33 = .ok (.getfield 48, 3) := by decide +kernel
theorem dX6_fills_36 : decode M_X6_fills.2.1 36 = .ok (.bipush 9, 2) := by decide +kernel
theorem dX6_fills_38 : decode M_X6_fills.2.1 38 = .ok (.iload 4, 2) := by decide +kernel
theorem dX6_fills_40 : decode M_X6_fills.2.1 40 = .ok (.imul, 1) := by decide +kernel
theorem dX6_fills_41 : decode M_X6_fills.2.1 41 = .ok (.iload_n 2, 1) := by decide +kernel
theorem dX6_fills_42 : decode M_X6_fills.2.1 42 = .ok (.iadd, 1) := by decide +kernel
theorem dX6_fills_43 : decode M_X6_fills.2.1 43 = .ok (.aload_n 0, 1) := by decide +kernel
theorem dX6_fills_44 : decode M_X6_fills.2.1 44 = .ok (.getfield 41, 3) := by decide +kernel
theorem dX6_fills_47 : decode M_X6_fills.2.1 47 = .ok (.bipush 16, 2) := by decide +kernel
theorem dX6_fills_49 : decode M_X6_fills.2.1 49 = .ok (.iload 4, 2) := by decide +kernel
theorem dX6_fills_51 : decode M_X6_fills.2.1 51 = .ok (.imul, 1) := by decide +kernel
theorem dX6_fills_52 : decode M_X6_fills.2.1 52 = .ok (.iload_n 3, 1) := by decide +kernel
theorem dX6_fills_53 : decode M_X6_fills.2.1 53 = .ok (.iadd, 1) := by decide +kernel
theorem dX6_fills_54 : decode M_X6_fills.2.1 54 = .ok (.laload, 1) := by decide +kernel
theorem dX6_fills_55 : decode M_X6_fills.2.1 55 = .ok (.lastore, 1) := by decide +kernel
theorem dX6_fills_56 : decode M_X6_fills.2.1 56 = .ok (.iinc 4 1, 3) := by decide +kernel
theorem dX6_fills_59 : decode M_X6_fills.2.1 59 = .ok (.goto (-36), 3) := by decide +kernel
theorem dX6_fills_62 : decode M_X6_fills.2.1 62 = .ok (.iinc 2 1, 3) := by decide +kernel
theorem dX6_fills_65 : decode M_X6_fills.2.1 65 = .ok (.iinc 3 1, 3) := by decide +kernel
theorem dX6_fills_68 : decode M_X6_fills.2.1 68 = .ok (.goto (-64), 3) := by decide +kernel
theorem dX6_fills_71 : decode M_X6_fills.2.1 71 = .ok (.iconst 0, 1) := by decide +kernel
theorem dX6_fills_72 : decode M_X6_fills.2.1 72 = .ok (.istore_n 3, 1) := by decide +kernel
theorem dX6_fills_73 : decode M_X6_fills.2.1 73 = .ok (.iload_n 3, 1) := by decide +kernel
theorem dX6_fills_74 : decode M_X6_fills.2.1 74 = .ok (.aload_n 0, 1) := by decide +kernel
theorem dX6_fills_75 : decode M_X6_fills.2.1 75 = .ok (.getfield 97, 3) := by decide +kernel
theorem dX6_fills_78 : decode M_X6_fills.2.1 78 = .ok (.if_icmp .ge 29, 3) := by decide +kernel
theorem dX6_fills_81 : decode M_X6_fills.2.1 81 = .ok (.aload_n 0, 1) := by decide +kernel
theorem dX6_fills_82 : decode M_X6_fills.2.1 82 = .ok (.getfield 48, 3) := by decide +kernel
theorem dX6_fills_85 : decode M_X6_fills.2.1 85 = .ok (.bipush 9, 2) := by decide +kernel
theorem dX6_fills_87 : decode M_X6_fills.2.1 87 = .ok (.iload_n 3, 1) := by decide +kernel
theorem dX6_fills_88 : decode M_X6_fills.2.1 88 = .ok (.imul, 1) := by decide +kernel
theorem dX6_fills_89 : decode M_X6_fills.2.1 89 = .ok (.aload_n 0, 1) := by decide +kernel
theorem dX6_fills_90 : decode M_X6_fills.2.1 90 = .ok (.getfield 97, 3) := by decide +kernel
theorem dX6_fills_93 : decode M_X6_fills.2.1 93 = .ok (.iadd, 1) := by decide +kernel
theorem dX6_fills_94 : decode M_X6_fills.2.1 94 = .ok (.aload_n 0, 1) := by decide +kernel
theorem dX6_fills_95 : decode M_X6_fills.2.1 95 = .ok (.getfield 45, 3) := by decide +kernel
theorem dX6_fills_98 : decode M_X6_fills.2.1 98 = .ok (.iload_n 3, 1) := by decide +kernel
theorem dX6_fills_99 : decode M_X6_fills.2.1 99 = .ok (.laload, 1) := by decide +kernel
theorem dX6_fills_100 : decode M_X6_fills.2.1 100 = .ok (.lastore, 1) := by decide +kernel
theorem dX6_fills_101 : decode M_X6_fills.2.1 101 = .ok (.iinc 3 1, 3) := by decide +kernel
theorem dX6_fills_104 : decode M_X6_fills.2.1 104 = .ok (.goto (-31), 3) := by decide +kernel
theorem dX6_fills_107 : decode M_X6_fills.2.1 107 = .ok (.return_, 1) := by decide +kernel
theorem dX6_solves_0 : decode M_X6_solves.2.1 0 = .ok (.aload_n 0, 1) := by decide +kernel
theorem dX6_solves_1 : decode M_X6_solves.2.1 1 = .ok (.iload_n 1, 1) := by decide +kernel
theorem dX6_solves_2 : decode M_X6_solves.2.1 2 = .ok (.invokevirtual 107, 3) := by decide +kernel
theorem dX6_solves_5 : decode M_X6_solves.2.1 5 = .ok (.lconst 1, 1) := by decide +kernel
theorem dX6_solves_6 : decode M_X6_solves.2.1 6 = .ok (.lstore_n 2, 1) := by decide +kernel
theorem dX6_solves_7 : decode M_X6_solves.2.1 7 = .ok (.iconst 0, 1) := by decide +kernel
theorem dX6_solves_8 : decode M_X6_solves.2.1 8 = .ok (.istore 4, 2) := by decide +kernel
theorem dX6_solves_10 : decode M_X6_solves.2.1 10 = .ok (.iload 4, 2) := by decide +kernel
theorem dX6_solves_12 : decode M_X6_solves.2.1 12 = .ok (.aload_n 0, 1) := by decide +kernel
theorem dX6_solves_13 : decode M_X6_solves.2.1 13 = .ok (.getfield 97, 3) := by decide +kernel
theorem dX6_solves_16 : decode M_X6_solves.2.1 16 = .ok (.if_icmp .ge 82, 3) := by decide +kernel
theorem dX6_solves_19 : decode M_X6_solves.2.1 19 = .ok (.aload_n 0, 1) := by decide +kernel
theorem dX6_solves_20 : decode M_X6_solves.2.1 20 = .ok (.iload 4, 2) := by decide +kernel
theorem dX6_solves_22 : decode M_X6_solves.2.1 22 = .ok (.invokevirtual 110, 3) := by decide +kernel
theorem dX6_solves_25 : decode M_X6_solves.2.1 25 = .ok (.istore 5, 2) := by decide +kernel
theorem dX6_solves_27 : decode M_X6_solves.2.1 27 = .ok (.iload 5, 2) := by decide +kernel
theorem dX6_solves_29 : decode M_X6_solves.2.1 29 = .ok (.bipush (-9), 2) := by decide +kernel
theorem dX6_solves_31 : decode M_X6_solves.2.1 31 = .ok (.if_icmp .ne 5, 3) := by decide +kernel
theorem dX6_solves_34 : decode M_X6_solves.2.1 34 = .ok (.iconst 0, 1) := by decide +kernel
theorem dX6_solves_35 : decode M_X6_solves.2.1 35 = .ok (.ireturn, 1) := by decide +kernel
theorem dX6_solves_36 : decode M_X6_solves.2.1 36 = .ok (.aload_n 0, 1) := by decide +kernel
theorem dX6_solves_37 : decode M_X6_solves.2.1 37 = .ok (.iload 5, 2) := by decide +kernel
theorem dX6_solves_39 : decode M_X6_solves.2.1 39 = .ok (.iload 4, 2) := by decide +kernel
theorem dX6_solves_41 : decode M_X6_solves.2.1 41 = .ok (.invokevirtual 113, 3) := by decide +kernel
theorem dX6_solves_44 : decode M_X6_solves.2.1 44 = .ok (.iconst 0, 1) := by decide +kernel
theorem dX6_solves_45 : decode M_X6_solves.2.1 45 = .ok (.istore 6, 2) := by decide +kernel
theorem dX6_solves_47 : decode M_X6_solves.2.1 47 = .ok (.iload 6, 2) := by decide +kernel
theorem dX6_solves_49 : decode M_X6_solves.2.1 49 = .ok (.aload_n 0, 1) := by decide +kernel
theorem dX6_solves_50 : decode M_X6_solves.2.1 50 = .ok (.getfield 97, 3) := by decide +kernel
theorem dX6_solves_53 : decode M_X6_solves.2.1 53 = .ok (.if_icmp .ge 25, 3) := by decide +kernel
theorem dX6_solves_56 : decode M_X6_solves.2.1 56 = .ok (.iload 6, 2) := by decide +kernel
theorem dX6_solves_58 : decode M_X6_solves.2.1 58 = .ok (.iload 4, 2) := by decide +kernel
theorem dX6_solves_60 : decode M_X6_solves.2.1 60 = .ok (.if_icmp .eq 12, 3) := by decide +kernel
theorem dX6_solves_63 : decode M_X6_solves.2.1 63 = .ok (.aload_n 0, 1) := by decide +kernel
theorem dX6_solves_64 : decode M_X6_solves.2.1 64 = .ok (.iload 6, 2) := by decide +kernel
theorem dX6_solves_66 : decode M_X6_solves.2.1 66 = .ok (.iload 4, 2) := by decide +kernel
theorem dX6_solves_68 : decode M_X6_solves.2.1 68 = .ok (.lload_n 2, 1) := by decide +kernel
theorem dX6_solves_69 : decode M_X6_solves.2.1 69 = .ok (.invokevirtual 117, 3) := by decide +kernel
theorem dX6_solves_72 : decode M_X6_solves.2.1 72 = .ok (.iinc 6 1, 3) := by decide +kernel
theorem dX6_solves_75 : decode M_X6_solves.2.1 75 = .ok (.goto (-28), 3) := by decide +kernel
theorem dX6_solves_78 : decode M_X6_solves.2.1 78 = .ok (.aload_n 0, 1) := by decide +kernel
theorem dX6_solves_79 : decode M_X6_solves.2.1 79 = .ok (.getfield 48, 3) := by decide +kernel
theorem dX6_solves_82 : decode M_X6_solves.2.1 82 = .ok (.bipush 9, 2) := by decide +kernel
theorem dX6_solves_84 : decode M_X6_solves.2.1 84 = .ok (.iload 4, 2) := by decide +kernel
theorem dX6_solves_86 : decode M_X6_solves.2.1 86 = .ok (.imul, 1) := by decide +kernel
theorem dX6_solves_87 : decode M_X6_solves.2.1 87 = .ok (.iload 4, 2) := by decide +kernel
theorem dX6_solves_89 : decode M_X6_solves.2.1 89 = .ok (.iadd, 1) := by decide +kernel
theorem dX6_solves_90 : decode M_X6_solves.2.1 90 = .ok (.laload, 1) := by decide +kernel
theorem dX6_solves_91 : decode M_X6_solves.2.1 91 = .ok (.lstore_n 2, 1) := by decide +kernel
theorem dX6_solves_92 : decode M_X6_solves.2.1 92 = .ok (.iinc 4 1, 3) := by decide +kernel
theorem dX6_solves_95 : decode M_X6_solves.2.1 95 = .ok (.goto (-85), 3) := by decide +kernel
theorem dX6_solves_98 : decode M_X6_solves.2.1 98 = .ok (.iconst 1, 1) := by decide +kernel
theorem dX6_solves_99 : decode M_X6_solves.2.1 99 = .ok (.ireturn, 1) := by decide +kernel
theorem dX6_divisor_0 : decode M_X6_divisor.2.1 0 = .ok (.aload_n 0, 1) := by decide +kernel
theorem dX6_divisor_1 : decode M_X6_divisor.2.1 1 = .ok (.getfield 97, 3) := by decide +kernel
theorem dX6_divisor_4 : decode M_X6_divisor.2.1 4 = .ok (.ifCond .ne 7, 3) := by decide +kernel
theorem dX6_divisor_7 : decode M_X6_divisor.2.1 7 = .ok (.lconst 1, 1) := by decide +kernel
theorem dX6_divisor_8 : decode M_X6_divisor.2.1 8 = .ok (.goto 24, 3) := by decide +kernel
theorem dX6_divisor_11 : decode M_X6_divisor.2.1 11 = .ok (.aload_n 0, 1) := by decide +kernel
theorem dX6_divisor_12 : decode M_X6_divisor.2.1 12 = .ok (.getfield 48, 3) := by decide +kernel
theorem dX6_divisor_15 : decode M_X6_divisor.2.1 15 = .ok (.bipush 9, 2) := by decide +kernel
theorem dX6_divisor_17 : decode M_X6_divisor.2.1 17 = .ok (.aload_n 0, 1) := by decide +kernel
theorem dX6_divisor_18 : decode M_X6_divisor.2.1 18 = .ok (.getfield 97, 3) := by decide +kernel
theorem dX6_divisor_21 : decode M_X6_divisor.2.1 21 = .ok (.iconst 1, 1) := by decide +kernel
theorem dX6_divisor_22 : decode M_X6_divisor.2.1 22 = .ok (.isub, 1) := by decide +kernel
theorem dX6_divisor_23 : decode M_X6_divisor.2.1 23 = .ok (.imul, 1) := by decide +kernel
theorem dX6_divisor_24 : decode M_X6_divisor.2.1 24 = .ok (.aload_n 0, 1) := by decide +kernel
theorem dX6_divisor_25 : decode M_X6_divisor.2.1 25 = .ok (.getfield 97, 3) := by decide +kernel
theorem dX6_divisor_28 : decode M_X6_divisor.2.1 28 = .ok (.iadd, 1) := by decide +kernel
theorem dX6_divisor_29 : decode M_X6_divisor.2.1 29 = .ok (.iconst 1, 1) := by decide +kernel
theorem dX6_divisor_30 : decode M_X6_divisor.2.1 30 = .ok (.isub, 1) := by decide +kernel
theorem dX6_divisor_31 : decode M_X6_divisor.2.1 31 = .ok (.laload, 1) := by decide +kernel
theorem dX6_divisor_32 : decode M_X6_divisor.2.1 32 = .ok (.lreturn, 1) := by decide +kernel
theorem dX6_isNoneBelow_0 : decode M_X6_isNoneBelow.2.1 0 = .ok (.aload_n 0, 1) := by decide +kernel
theorem dX6_isNoneBelow_1 : decode M_X6_isNoneBelow.2.1 1 = .ok (.invokevirtual 121, 3) := by decide +kernel
theorem dX6_isNoneBelow_4 : decode M_X6_isNoneBelow.2.1 4 = .ok (.lconst 0, 1) := by decide +kernel
theorem dX6_isNoneBelow_5 : decode M_X6_isNoneBelow.2.1 5 = .ok (.lcmp, 1) := by decide +kernel
theorem dX6_isNoneBelow_6 : decode M_X6_isNoneBelow.2.1 6 = .ok (.ifCond .le 7, 3) := by decide +kernel
theorem dX6_isNoneBelow_9 : decode M_X6_isNoneBelow.2.1 9 = .ok (.iconst 1, 1) := by decide +kernel
theorem dX6_isNoneBelow_10 : decode M_X6_isNoneBelow.2.1 10 = .ok (.goto 4, 3) := by decide +kernel
theorem dX6_isNoneBelow_13 : decode M_X6_isNoneBelow.2.1 13 = .ok (.iconst 0, 1) := by decide +kernel
theorem dX6_isNoneBelow_14 : decode M_X6_isNoneBelow.2.1 14 = .ok (.istore_n 1, 1) := by decide +kernel
theorem dX6_isNoneBelow_15 : decode M_X6_isNoneBelow.2.1 15 = .ok (.iconst 1, 1) := by decide +kernel
theorem dX6_isNoneBelow_16 : decode M_X6_isNoneBelow.2.1 16 = .ok (.istore_n 2, 1) := by decide +kernel
theorem dX6_isNoneBelow_17 : decode M_X6_isNoneBelow.2.1 17 = .ok (.iconst 0, 1) := by decide +kernel
theorem dX6_isNoneBelow_18 : decode M_X6_isNoneBelow.2.1 18 = .ok (.istore_n 3, 1) := by decide +kernel
theorem dX6_isNoneBelow_19 : decode M_X6_isNoneBelow.2.1 19 = .ok (.iload_n 3, 1) := by decide +kernel
theorem dX6_isNoneBelow_20 : decode M_X6_isNoneBelow.2.1 20 = .ok (.aload_n 0, 1) := by decide +kernel
theorem dX6_isNoneBelow_21 : decode M_X6_isNoneBelow.2.1 21 = .ok (.getfield 97, 3) := by decide +kernel
theorem dX6_isNoneBelow_24 : decode M_X6_isNoneBelow.2.1 24 = .ok (.if_icmp .ge 56, 3) := by decide +kernel
theorem dX6_isNoneBelow_27 : decode M_X6_isNoneBelow.2.1 27 = .ok (.aload_n 0, 1) := by decide +kernel
theorem dX6_isNoneBelow_28 : decode M_X6_isNoneBelow.2.1 28 = .ok (.getfield 48, 3) := by decide +kernel
theorem dX6_isNoneBelow_31 : decode M_X6_isNoneBelow.2.1 31 = .ok (.bipush 9, 2) := by decide +kernel
theorem dX6_isNoneBelow_33 : decode M_X6_isNoneBelow.2.1 33 = .ok (.iload_n 3, 1) := by decide +kernel
theorem dX6_isNoneBelow_34 : decode M_X6_isNoneBelow.2.1 34 = .ok (.imul, 1) := by decide +kernel
theorem dX6_isNoneBelow_35 : decode M_X6_isNoneBelow.2.1 35 = .ok (.aload_n 0, 1) := by decide +kernel
theorem dX6_isNoneBelow_36 : decode M_X6_isNoneBelow.2.1 36 = .ok (.getfield 97, 3) := by decide +kernel
theorem dX6_isNoneBelow_39 : decode M_X6_isNoneBelow.2.1 39 = .ok (.iadd, 1) := by decide +kernel
theorem dX6_isNoneBelow_40 : decode M_X6_isNoneBelow.2.1 40 = .ok (.laload, 1) := by decide +kernel
theorem dX6_isNoneBelow_41 : decode M_X6_isNoneBelow.2.1 41 = .ok (.lstore 4, 2) := by decide +kernel
theorem dX6_isNoneBelow_43 : decode M_X6_isNoneBelow.2.1 43 = .ok (.iload_n 2, 1) := by decide +kernel
theorem dX6_isNoneBelow_44 : decode M_X6_isNoneBelow.2.1 44 = .ok (.ifCond .eq 28, 3) := by decide +kernel
theorem dX6_isNoneBelow_47 : decode M_X6_isNoneBelow.2.1 47 = .ok (.iload_n 1, 1) := by decide +kernel
theorem dX6_isNoneBelow_48 : decode M_X6_isNoneBelow.2.1 48 = .ok (.ifCond .eq 13, 3) := by decide +kernel
theorem dX6_isNoneBelow_51 : decode M_X6_isNoneBelow.2.1 51 = .ok (.lload 4, 2) := by decide +kernel
theorem dX6_isNoneBelow_53 : decode M_X6_isNoneBelow.2.1 53 = .ok (.lconst 0, 1) := by decide +kernel
theorem dX6_isNoneBelow_54 : decode M_X6_isNoneBelow.2.1 54 = .ok (.lcmp, 1) := by decide +kernel
theorem dX6_isNoneBelow_55 : decode M_X6_isNoneBelow.2.1 55 = .ok (.ifCond .lt 17, 3) := by decide +kernel
theorem dX6_isNoneBelow_58 : decode M_X6_isNoneBelow.2.1 58 = .ok (.goto 10, 3) := by decide +kernel
theorem dX6_isNoneBelow_61 : decode M_X6_isNoneBelow.2.1 61 = .ok (.lload 4, 2) := by decide +kernel
theorem dX6_isNoneBelow_63 : decode M_X6_isNoneBelow.2.1 63 = .ok (.lconst 0, 1) := by decide +kernel
theorem dX6_isNoneBelow_64 : decode M_X6_isNoneBelow.2.1 64 = .ok (.lcmp, 1) := by decide +kernel
theorem dX6_isNoneBelow_65 : decode M_X6_isNoneBelow.2.1 65 = .ok (.ifCond .gt 7, 3) := by decide +kernel
theorem dX6_isNoneBelow_68 : decode M_X6_isNoneBelow.2.1 68 = .ok (.iconst 1, 1) := by decide +kernel
theorem dX6_isNoneBelow_69 : decode M_X6_isNoneBelow.2.1 69 = .ok (.goto 4, 3) := by decide +kernel
theorem dX6_isNoneBelow_72 : decode M_X6_isNoneBelow.2.1 72 = .ok (.iconst 0, 1) := by decide +kernel
theorem dX6_isNoneBelow_73 : decode M_X6_isNoneBelow.2.1 73 = .ok (.istore_n 2, 1) := by decide +kernel
theorem dX6_isNoneBelow_74 : decode M_X6_isNoneBelow.2.1 74 = .ok (.iinc 3 1, 3) := by decide +kernel
theorem dX6_isNoneBelow_77 : decode M_X6_isNoneBelow.2.1 77 = .ok (.goto (-58), 3) := by decide +kernel
theorem dX6_isNoneBelow_80 : decode M_X6_isNoneBelow.2.1 80 = .ok (.iload_n 2, 1) := by decide +kernel
theorem dX6_isNoneBelow_81 : decode M_X6_isNoneBelow.2.1 81 = .ok (.ireturn, 1) := by decide +kernel
theorem dX6_solved_0 : decode M_X6_solved.2.1 0 = .ok (.iload_n 2, 1) := by decide +kernel
theorem dX6_solved_1 : decode M_X6_solved.2.1 1 = .ok (.bipush (-9), 2) := by decide +kernel
theorem dX6_solved_3 : decode M_X6_solved.2.1 3 = .ok (.if_icmp .eq 11, 3) := by decide +kernel
theorem dX6_solved_6 : decode M_X6_solved.2.1 6 = .ok (.iload_n 1, 1) := by decide +kernel
end
section
theorem dX6_solved_7 : decode M_X6_solved.2.1 7 = .ok (.iload_n 2, 1) := by decide +kernel
theorem dX6_solved_8 : decode M_X6_solved.2.1 8 = .ok (.invokestatic 92, 3) := by decide +kernel
theorem dX6_solved_11 : decode M_X6_solved.2.1 11 = .ok (.ifCond .ne 5, 3) := by decide +kernel
theorem dX6_solved_14 : decode M_X6_solved.2.1 14 = .ok (.lconst 0, 1) := by decide +kernel
theorem dX6_solved_15 : decode M_X6_solved.2.1 15 = .ok (.lreturn, 1) := by decide +kernel
theorem dX6_solved_16 : decode M_X6_solved.2.1 16 = .ok (.aload_n 0, 1) := by decide +kernel
theorem dX6_solved_17 : decode M_X6_solved.2.1 17 = .ok (.getfield 48, 3) := by decide +kernel
theorem dX6_solved_20 : decode M_X6_solved.2.1 20 = .ok (.bipush 9, 2) := by decide +kernel
theorem dX6_solved_22 : decode M_X6_solved.2.1 22 = .ok (.iload_n 1, 1) := by decide +kernel
theorem dX6_solved_23 : decode M_X6_solved.2.1 23 = .ok (.iconst 1, 1) := by decide +kernel
theorem dX6_solved_24 : decode M_X6_solved.2.1 24 = .ok (.iload_n 2, 1) := by decide +kernel
theorem dX6_solved_25 : decode M_X6_solved.2.1 25 = .ok (.ishl, 1) := by decide +kernel
theorem dX6_solved_26 : decode M_X6_solved.2.1 26 = .ok (.iconst 1, 1) := by decide +kernel
theorem dX6_solved_27 : decode M_X6_solved.2.1 27 = .ok (.isub, 1) := by decide +kernel
theorem dX6_solved_28 : decode M_X6_solved.2.1 28 = .ok (.iand, 1) := by decide +kernel
theorem dX6_solved_29 : decode M_X6_solved.2.1 29 = .ok (.invokestatic 125, 3) := by decide +kernel
theorem dX6_solved_32 : decode M_X6_solved.2.1 32 = .ok (.imul, 1) := by decide +kernel
theorem dX6_solved_33 : decode M_X6_solved.2.1 33 = .ok (.aload_n 0, 1) := by decide +kernel
theorem dX6_solved_34 : decode M_X6_solved.2.1 34 = .ok (.getfield 97, 3) := by decide +kernel
theorem dX6_solved_37 : decode M_X6_solved.2.1 37 = .ok (.iadd, 1) := by decide +kernel
theorem dX6_solved_38 : decode M_X6_solved.2.1 38 = .ok (.laload, 1) := by decide +kernel
theorem dX6_solved_39 : decode M_X6_solved.2.1 39 = .ok (.lstore_n 3, 1) := by decide +kernel
theorem dX6_solved_40 : decode M_X6_solved.2.1 40 = .ok (.aload_n 0, 1) := by decide +kernel
theorem dX6_solved_41 : decode M_X6_solved.2.1 41 = .ok (.invokevirtual 121, 3) := by decide +kernel
theorem dX6_solved_44 : decode M_X6_solved.2.1 44 = .ok (.lconst 0, 1) := by decide +kernel
theorem dX6_solved_45 : decode M_X6_solved.2.1 45 = .ok (.lcmp, 1) := by decide +kernel
theorem dX6_solved_46 : decode M_X6_solved.2.1 46 = .ok (.ifCond .le 7, 3) := by decide +kernel
theorem dX6_solved_49 : decode M_X6_solved.2.1 49 = .ok (.lload_n 3, 1) := by decide +kernel
theorem dX6_solved_50 : decode M_X6_solved.2.1 50 = .ok (.goto 5, 3) := by decide +kernel
theorem dX6_solved_53 : decode M_X6_solved.2.1 53 = .ok (.lload_n 3, 1) := by decide +kernel
theorem dX6_solved_54 : decode M_X6_solved.2.1 54 = .ok (.lneg, 1) := by decide +kernel
theorem dX6_solved_55 : decode M_X6_solved.2.1 55 = .ok (.lreturn, 1) := by decide +kernel
theorem dX6_meets_0 : decode M_X6_meets.2.1 0 = .ok (.aload_n 0, 1) := by decide +kernel
theorem dX6_meets_1 : decode M_X6_meets.2.1 1 = .ok (.getfield 128, 3) := by decide +kernel
theorem dX6_meets_4 : decode M_X6_meets.2.1 4 = .ok (.ifCond .eq 19, 3) := by decide +kernel
theorem dX6_meets_7 : decode M_X6_meets.2.1 7 = .ok (.lload_n 1, 1) := by decide +kernel
theorem dX6_meets_8 : decode M_X6_meets.2.1 8 = .ok (.aload_n 0, 1) := by decide +kernel
theorem dX6_meets_9 : decode M_X6_meets.2.1 9 = .ok (.getfield 132, 3) := by decide +kernel
theorem dX6_meets_12 : decode M_X6_meets.2.1 12 = .ok (.lmul, 1) := by decide +kernel
theorem dX6_meets_13 : decode M_X6_meets.2.1 13 = .ok (.aload_n 0, 1) := by decide +kernel
theorem dX6_meets_14 : decode M_X6_meets.2.1 14 = .ok (.getfield 136, 3) := by decide +kernel
theorem dX6_meets_17 : decode M_X6_meets.2.1 17 = .ok (.lload_n 3, 1) := by decide +kernel
theorem dX6_meets_18 : decode M_X6_meets.2.1 18 = .ok (.lmul, 1) := by decide +kernel
theorem dX6_meets_19 : decode M_X6_meets.2.1 19 = .ok (.lcmp, 1) := by decide +kernel
theorem dX6_meets_20 : decode M_X6_meets.2.1 20 = .ok (.ifCond .ge 13, 3) := by decide +kernel
theorem dX6_meets_23 : decode M_X6_meets.2.1 23 = .ok (.aload_n 0, 1) := by decide +kernel
theorem dX6_meets_24 : decode M_X6_meets.2.1 24 = .ok (.lload_n 1, 1) := by decide +kernel
theorem dX6_meets_25 : decode M_X6_meets.2.1 25 = .ok (.putfield 136, 3) := by decide +kernel
theorem dX6_meets_28 : decode M_X6_meets.2.1 28 = .ok (.aload_n 0, 1) := by decide +kernel
theorem dX6_meets_29 : decode M_X6_meets.2.1 29 = .ok (.lload_n 3, 1) := by decide +kernel
theorem dX6_meets_30 : decode M_X6_meets.2.1 30 = .ok (.putfield 132, 3) := by decide +kernel
theorem dX6_meets_33 : decode M_X6_meets.2.1 33 = .ok (.aload_n 0, 1) := by decide +kernel
theorem dX6_meets_34 : decode M_X6_meets.2.1 34 = .ok (.getfield 128, 3) := by decide +kernel
theorem dX6_meets_37 : decode M_X6_meets.2.1 37 = .ok (.ifCond .eq 19, 3) := by decide +kernel
theorem dX6_meets_40 : decode M_X6_meets.2.1 40 = .ok (.lload_n 1, 1) := by decide +kernel
theorem dX6_meets_41 : decode M_X6_meets.2.1 41 = .ok (.aload_n 0, 1) := by decide +kernel
theorem dX6_meets_42 : decode M_X6_meets.2.1 42 = .ok (.getfield 139, 3) := by decide +kernel
theorem dX6_meets_45 : decode M_X6_meets.2.1 45 = .ok (.lmul, 1) := by decide +kernel
theorem dX6_meets_46 : decode M_X6_meets.2.1 46 = .ok (.aload_n 0, 1) := by decide +kernel
theorem dX6_meets_47 : decode M_X6_meets.2.1 47 = .ok (.getfield 142, 3) := by decide +kernel
theorem dX6_meets_50 : decode M_X6_meets.2.1 50 = .ok (.lload_n 3, 1) := by decide +kernel
theorem dX6_meets_51 : decode M_X6_meets.2.1 51 = .ok (.lmul, 1) := by decide +kernel
theorem dX6_meets_52 : decode M_X6_meets.2.1 52 = .ok (.lcmp, 1) := by decide +kernel
theorem dX6_meets_53 : decode M_X6_meets.2.1 53 = .ok (.ifCond .le 13, 3) := by decide +kernel
theorem dX6_meets_56 : decode M_X6_meets.2.1 56 = .ok (.aload_n 0, 1) := by decide +kernel
theorem dX6_meets_57 : decode M_X6_meets.2.1 57 = .ok (.lload_n 1, 1) := by decide +kernel
theorem dX6_meets_58 : decode M_X6_meets.2.1 58 = .ok (.putfield 142, 3) := by decide +kernel
theorem dX6_meets_61 : decode M_X6_meets.2.1 61 = .ok (.aload_n 0, 1) := by decide +kernel
theorem dX6_meets_62 : decode M_X6_meets.2.1 62 = .ok (.lload_n 3, 1) := by decide +kernel
theorem dX6_meets_63 : decode M_X6_meets.2.1 63 = .ok (.putfield 139, 3) := by decide +kernel
theorem dX6_meets_66 : decode M_X6_meets.2.1 66 = .ok (.aload_n 0, 1) := by decide +kernel
theorem dX6_meets_67 : decode M_X6_meets.2.1 67 = .ok (.iconst 1, 1) := by decide +kernel
theorem dX6_meets_68 : decode M_X6_meets.2.1 68 = .ok (.putfield 128, 3) := by decide +kernel
theorem dX6_meets_71 : decode M_X6_meets.2.1 71 = .ok (.return_, 1) := by decide +kernel
theorem dX6_seeks_0 : decode M_X6_seeks.2.1 0 = .ok (.aload_n 0, 1) := by decide +kernel
theorem dX6_seeks_1 : decode M_X6_seeks.2.1 1 = .ok (.iconst 0, 1) := by decide +kernel
theorem dX6_seeks_2 : decode M_X6_seeks.2.1 2 = .ok (.putfield 128, 3) := by decide +kernel
theorem dX6_seeks_5 : decode M_X6_seeks.2.1 5 = .ok (.iconst 0, 1) := by decide +kernel
theorem dX6_seeks_6 : decode M_X6_seeks.2.1 6 = .ok (.istore_n 2, 1) := by decide +kernel
theorem dX6_seeks_7 : decode M_X6_seeks.2.1 7 = .ok (.iload_n 2, 1) := by decide +kernel
theorem dX6_seeks_8 : decode M_X6_seeks.2.1 8 = .ok (.iconst 1, 1) := by decide +kernel
theorem dX6_seeks_9 : decode M_X6_seeks.2.1 9 = .ok (.aload_n 0, 1) := by decide +kernel
theorem dX6_seeks_10 : decode M_X6_seeks.2.1 10 = .ok (.getfield 104, 3) := by decide +kernel
theorem dX6_seeks_13 : decode M_X6_seeks.2.1 13 = .ok (.ishl, 1) := by decide +kernel
theorem dX6_seeks_14 : decode M_X6_seeks.2.1 14 = .ok (.if_icmp .ge 62, 3) := by decide +kernel
theorem dX6_seeks_17 : decode M_X6_seeks.2.1 17 = .ok (.iload_n 2, 1) := by decide +kernel
theorem dX6_seeks_18 : decode M_X6_seeks.2.1 18 = .ok (.invokestatic 125, 3) := by decide +kernel
theorem dX6_seeks_21 : decode M_X6_seeks.2.1 21 = .ok (.aload_n 0, 1) := by decide +kernel
theorem dX6_seeks_22 : decode M_X6_seeks.2.1 22 = .ok (.getfield 97, 3) := by decide +kernel
theorem dX6_seeks_25 : decode M_X6_seeks.2.1 25 = .ok (.if_icmp .ne 45, 3) := by decide +kernel
theorem dX6_seeks_28 : decode M_X6_seeks.2.1 28 = .ok (.aload_n 0, 1) := by decide +kernel
theorem dX6_seeks_29 : decode M_X6_seeks.2.1 29 = .ok (.iload_n 2, 1) := by decide +kernel
theorem dX6_seeks_30 : decode M_X6_seeks.2.1 30 = .ok (.invokevirtual 145, 3) := by decide +kernel
theorem dX6_seeks_33 : decode M_X6_seeks.2.1 33 = .ok (.ifCond .eq 37, 3) := by decide +kernel
theorem dX6_seeks_36 : decode M_X6_seeks.2.1 36 = .ok (.aload_n 0, 1) := by decide +kernel
theorem dX6_seeks_37 : decode M_X6_seeks.2.1 37 = .ok (.invokevirtual 149, 3) := by decide +kernel
theorem dX6_seeks_40 : decode M_X6_seeks.2.1 40 = .ok (.ifCond .eq 30, 3) := by decide +kernel
theorem dX6_seeks_43 : decode M_X6_seeks.2.1 43 = .ok (.aload_n 0, 1) := by decide +kernel
theorem dX6_seeks_44 : decode M_X6_seeks.2.1 44 = .ok (.invokevirtual 121, 3) := by decide +kernel
theorem dX6_seeks_47 : decode M_X6_seeks.2.1 47 = .ok (.lstore_n 3, 1) := by decide +kernel
theorem dX6_seeks_48 : decode M_X6_seeks.2.1 48 = .ok (.aload_n 0, 1) := by decide +kernel
theorem dX6_seeks_49 : decode M_X6_seeks.2.1 49 = .ok (.aload_n 0, 1) := by decide +kernel
theorem dX6_seeks_50 : decode M_X6_seeks.2.1 50 = .ok (.iload_n 2, 1) := by decide +kernel
theorem dX6_seeks_51 : decode M_X6_seeks.2.1 51 = .ok (.iload_n 1, 1) := by decide +kernel
theorem dX6_seeks_52 : decode M_X6_seeks.2.1 52 = .ok (.invokevirtual 153, 3) := by decide +kernel
theorem dX6_seeks_55 : decode M_X6_seeks.2.1 55 = .ok (.lload_n 3, 1) := by decide +kernel
theorem dX6_seeks_56 : decode M_X6_seeks.2.1 56 = .ok (.lconst 0, 1) := by decide +kernel
theorem dX6_seeks_57 : decode M_X6_seeks.2.1 57 = .ok (.lcmp, 1) := by decide +kernel
theorem dX6_seeks_58 : decode M_X6_seeks.2.1 58 = .ok (.ifCond .ge 8, 3) := by decide +kernel
theorem dX6_seeks_61 : decode M_X6_seeks.2.1 61 = .ok (.lload_n 3, 1) := by decide +kernel
theorem dX6_seeks_62 : decode M_X6_seeks.2.1 62 = .ok (.lneg, 1) := by decide +kernel
theorem dX6_seeks_63 : decode M_X6_seeks.2.1 63 = .ok (.goto 4, 3) := by decide +kernel
theorem dX6_seeks_66 : decode M_X6_seeks.2.1 66 = .ok (.lload_n 3, 1) := by decide +kernel
theorem dX6_seeks_67 : decode M_X6_seeks.2.1 67 = .ok (.invokevirtual 157, 3) := by decide +kernel
theorem dX6_seeks_70 : decode M_X6_seeks.2.1 70 = .ok (.iinc 2 1, 3) := by decide +kernel
theorem dX6_seeks_73 : decode M_X6_seeks.2.1 73 = .ok (.goto (-66), 3) := by decide +kernel
theorem dX6_seeks_76 : decode M_X6_seeks.2.1 76 = .ok (.return_, 1) := by decide +kernel
theorem dX6_all_0 : decode M_X6_all.2.1 0 = .ok (.iconst 1, 1) := by decide +kernel
theorem dX6_all_1 : decode M_X6_all.2.1 1 = .ok (.aload_n 0, 1) := by decide +kernel
theorem dX6_all_2 : decode M_X6_all.2.1 2 = .ok (.invokevirtual 84, 3) := by decide +kernel
theorem dX6_all_5 : decode M_X6_all.2.1 5 = .ok (.ishl, 1) := by decide +kernel
theorem dX6_all_6 : decode M_X6_all.2.1 6 = .ok (.iconst 1, 1) := by decide +kernel
theorem dX6_all_7 : decode M_X6_all.2.1 7 = .ok (.isub, 1) := by decide +kernel
theorem dX6_all_8 : decode M_X6_all.2.1 8 = .ok (.ireturn, 1) := by decide +kernel
theorem dX6_canBalance_0 : decode M_X6_canBalance.2.1 0 = .ok (.aload_n 0, 1) := by decide +kernel
theorem dX6_canBalance_1 : decode M_X6_canBalance.2.1 1 = .ok (.invokevirtual 161, 3) := by decide +kernel
theorem dX6_canBalance_4 : decode M_X6_canBalance.2.1 4 = .ok (.aload_n 0, 1) := by decide +kernel
theorem dX6_canBalance_5 : decode M_X6_canBalance.2.1 5 = .ok (.iload_n 1, 1) := by decide +kernel
theorem dX6_canBalance_6 : decode M_X6_canBalance.2.1 6 = .ok (.bipush (-9), 2) := by decide +kernel
theorem dX6_canBalance_8 : decode M_X6_canBalance.2.1 8 = .ok (.iconst 0, 1) := by decide +kernel
theorem dX6_canBalance_9 : decode M_X6_canBalance.2.1 9 = .ok (.iconst 0, 1) := by decide +kernel
theorem dX6_canBalance_10 : decode M_X6_canBalance.2.1 10 = .ok (.invokevirtual 164, 3) := by decide +kernel
theorem dX6_canBalance_13 : decode M_X6_canBalance.2.1 13 = .ok (.aload_n 0, 1) := by decide +kernel
theorem dX6_canBalance_14 : decode M_X6_canBalance.2.1 14 = .ok (.bipush (-9), 2) := by decide +kernel
theorem dX6_canBalance_16 : decode M_X6_canBalance.2.1 16 = .ok (.invokevirtual 168, 3) := by decide +kernel
theorem dX6_canBalance_19 : decode M_X6_canBalance.2.1 19 = .ok (.aload_n 0, 1) := by decide +kernel
theorem dX6_canBalance_20 : decode M_X6_canBalance.2.1 20 = .ok (.getfield 128, 3) := by decide +kernel
theorem dX6_canBalance_23 : decode M_X6_canBalance.2.1 23 = .ok (.ireturn, 1) := by decide +kernel
theorem dX6_isResting_0 : decode M_X6_isResting.2.1 0 = .ok (.aload_n 0, 1) := by decide +kernel
theorem dX6_isResting_1 : decode M_X6_isResting.2.1 1 = .ok (.aload_n 0, 1) := by decide +kernel
theorem dX6_isResting_2 : decode M_X6_isResting.2.1 2 = .ok (.invokevirtual 171, 3) := by decide +kernel
theorem dX6_isResting_5 : decode M_X6_isResting.2.1 5 = .ok (.invokevirtual 174, 3) := by decide +kernel
theorem dX6_isResting_8 : decode M_X6_isResting.2.1 8 = .ok (.ireturn, 1) := by decide +kernel
theorem dX6_common_0 : decode M_X6_common.2.1 0 = .ok (.lload_n 0, 1) := by decide +kernel
theorem dX6_common_1 : decode M_X6_common.2.1 1 = .ok (.lstore 4, 2) := by decide +kernel
theorem dX6_common_3 : decode M_X6_common.2.1 3 = .ok (.lload_n 2, 1) := by decide +kernel
theorem dX6_common_4 : decode M_X6_common.2.1 4 = .ok (.lstore 6, 2) := by decide +kernel
theorem dX6_common_6 : decode M_X6_common.2.1 6 = .ok (.lload 6, 2) := by decide +kernel
theorem dX6_common_8 : decode M_X6_common.2.1 8 = .ok (.lconst 0, 1) := by decide +kernel
theorem dX6_common_9 : decode M_X6_common.2.1 9 = .ok (.lcmp, 1) := by decide +kernel
theorem dX6_common_10 : decode M_X6_common.2.1 10 = .ok (.ifCond .eq 21, 3) := by decide +kernel
theorem dX6_common_13 : decode M_X6_common.2.1 13 = .ok (.lload 4, 2) := by decide +kernel
theorem dX6_common_15 : decode M_X6_common.2.1 15 = .ok (.lload 6, 2) := by decide +kernel
theorem dX6_common_17 : decode M_X6_common.2.1 17 = .ok (.lrem, 1) := by decide +kernel
theorem dX6_common_18 : decode M_X6_common.2.1 18 = .ok (.lstore 8, 2) := by decide +kernel
theorem dX6_common_20 : decode M_X6_common.2.1 20 = .ok (.lload 6, 2) := by decide +kernel
theorem dX6_common_22 : decode M_X6_common.2.1 22 = .ok (.lstore 4, 2) := by decide +kernel
theorem dX6_common_24 : decode M_X6_common.2.1 24 = .ok (.lload 8, 2) := by decide +kernel
theorem dX6_common_26 : decode M_X6_common.2.1 26 = .ok (.lstore 6, 2) := by decide +kernel
theorem dX6_common_28 : decode M_X6_common.2.1 28 = .ok (.goto (-22), 3) := by decide +kernel
theorem dX6_common_31 : decode M_X6_common.2.1 31 = .ok (.lload 4, 2) := by decide +kernel
theorem dX6_common_33 : decode M_X6_common.2.1 33 = .ok (.lreturn, 1) := by decide +kernel
theorem dX6_told_0 : decode M_X6_told.2.1 0 = .ok (.iload_n 1, 1) := by decide +kernel
theorem dX6_told_1 : decode M_X6_told.2.1 1 = .ok (.iconst 2, 1) := by decide +kernel
theorem dX6_told_2 : decode M_X6_told.2.1 2 = .ok (.if_icmp .ge 10, 3) := by decide +kernel
theorem dX6_told_5 : decode M_X6_told.2.1 5 = .ok (.aload_n 0, 1) := by decide +kernel
theorem dX6_told_6 : decode M_X6_told.2.1 6 = .ok (.getfield 136, 3) := by decide +kernel
theorem dX6_told_9 : decode M_X6_told.2.1 9 = .ok (.goto 7, 3) := by decide +kernel
theorem dX6_told_12 : decode M_X6_told.2.1 12 = .ok (.aload_n 0, 1) := by decide +kernel
theorem dX6_told_13 : decode M_X6_told.2.1 13 = .ok (.getfield 142, 3) := by decide +kernel
theorem dX6_told_16 : decode M_X6_told.2.1 16 = .ok (.lstore_n 2, 1) := by decide +kernel
theorem dX6_told_17 : decode M_X6_told.2.1 17 = .ok (.iload_n 1, 1) := by decide +kernel
theorem dX6_told_18 : decode M_X6_told.2.1 18 = .ok (.iconst 2, 1) := by decide +kernel
theorem dX6_told_19 : decode M_X6_told.2.1 19 = .ok (.if_icmp .ge 10, 3) := by decide +kernel
theorem dX6_told_22 : decode M_X6_told.2.1 22 = .ok (.aload_n 0, 1) := by decide +kernel
theorem dX6_told_23 : decode M_X6_told.2.1 23 = .ok (.getfield 132, 3) := by decide +kernel
theorem dX6_told_26 : decode M_X6_told.2.1 26 = .ok (.goto 7, 3) := by decide +kernel
theorem dX6_told_29 : decode M_X6_told.2.1 29 = .ok (.aload_n 0, 1) := by decide +kernel
theorem dX6_told_30 : decode M_X6_told.2.1 30 = .ok (.getfield 139, 3) := by decide +kernel
theorem dX6_told_33 : decode M_X6_told.2.1 33 = .ok (.lstore 4, 2) := by decide +kernel
theorem dX6_told_35 : decode M_X6_told.2.1 35 = .ok (.lload 4, 2) := by decide +kernel
theorem dX6_told_37 : decode M_X6_told.2.1 37 = .ok (.lload_n 2, 1) := by decide +kernel
theorem dX6_told_38 : decode M_X6_told.2.1 38 = .ok (.invokestatic 177, 3) := by decide +kernel
theorem dX6_told_41 : decode M_X6_told.2.1 41 = .ok (.lstore 6, 2) := by decide +kernel
theorem dX6_told_43 : decode M_X6_told.2.1 43 = .ok (.iload_n 1, 1) := by decide +kernel
theorem dX6_told_44 : decode M_X6_told.2.1 44 = .ok (.iconst 2, 1) := by decide +kernel
theorem dX6_told_45 : decode M_X6_told.2.1 45 = .ok (.irem, 1) := by decide +kernel
theorem dX6_told_46 : decode M_X6_told.2.1 46 = .ok (.ifCond .ne 7, 3) := by decide +kernel
theorem dX6_told_49 : decode M_X6_told.2.1 49 = .ok (.lload_n 2, 1) := by decide +kernel
theorem dX6_told_50 : decode M_X6_told.2.1 50 = .ok (.goto 5, 3) := by decide +kernel
theorem dX6_told_53 : decode M_X6_told.2.1 53 = .ok (.lload 4, 2) := by decide +kernel
theorem dX6_told_55 : decode M_X6_told.2.1 55 = .ok (.lload 6, 2) := by decide +kernel
theorem dX6_told_57 : decode M_X6_told.2.1 57 = .ok (.ldiv, 1) := by decide +kernel
theorem dX6_told_58 : decode M_X6_told.2.1 58 = .ok (.lreturn, 1) := by decide +kernel
theorem dX6_skips_0 : decode M_X6_skips.2.1 0 = .ok (.aload_n 0, 1) := by decide +kernel
theorem dX6_skips_1 : decode M_X6_skips.2.1 1 = .ok (.getfield 181, 3) := by decide +kernel
theorem dX6_skips_4 : decode M_X6_skips.2.1 4 = .ok (.aload_n 0, 1) := by decide +kernel
theorem dX6_skips_5 : decode M_X6_skips.2.1 5 = .ok (.getfield 184, 3) := by decide +kernel
theorem dX6_skips_8 : decode M_X6_skips.2.1 8 = .ok (.if_icmp .ge 30, 3) := by decide +kernel
theorem dX6_skips_11 : decode M_X6_skips.2.1 11 = .ok (.aload_n 0, 1) := by decide +kernel
theorem dX6_skips_12 : decode M_X6_skips.2.1 12 = .ok (.getfield 23, 3) := by decide +kernel
theorem dX6_skips_15 : decode M_X6_skips.2.1 15 = .ok (.aload_n 0, 1) := by decide +kernel
theorem dX6_skips_16 : decode M_X6_skips.2.1 16 = .ok (.getfield 181, 3) := by decide +kernel
theorem dX6_skips_19 : decode M_X6_skips.2.1 19 = .ok (.iaload, 1) := by decide +kernel
theorem dX6_skips_20 : decode M_X6_skips.2.1 20 = .ok (.bipush 32, 2) := by decide +kernel
theorem dX6_skips_22 : decode M_X6_skips.2.1 22 = .ok (.if_icmp .ne 16, 3) := by decide +kernel
theorem dX6_skips_25 : decode M_X6_skips.2.1 25 = .ok (.aload_n 0, 1) := by decide +kernel
theorem dX6_skips_26 : decode M_X6_skips.2.1 26 = .ok (.dup, 1) := by decide +kernel
theorem dX6_skips_27 : decode M_X6_skips.2.1 27 = .ok (.getfield 181, 3) := by decide +kernel
theorem dX6_skips_30 : decode M_X6_skips.2.1 30 = .ok (.iconst 1, 1) := by decide +kernel
theorem dX6_skips_31 : decode M_X6_skips.2.1 31 = .ok (.iadd, 1) := by decide +kernel
theorem dX6_skips_32 : decode M_X6_skips.2.1 32 = .ok (.putfield 181, 3) := by decide +kernel
theorem dX6_skips_35 : decode M_X6_skips.2.1 35 = .ok (.goto (-35), 3) := by decide +kernel
theorem dX6_skips_38 : decode M_X6_skips.2.1 38 = .ok (.aload_n 0, 1) := by decide +kernel
theorem dX6_skips_39 : decode M_X6_skips.2.1 39 = .ok (.aload_n 0, 1) := by decide +kernel
theorem dX6_skips_40 : decode M_X6_skips.2.1 40 = .ok (.getfield 181, 3) := by decide +kernel
theorem dX6_skips_43 : decode M_X6_skips.2.1 43 = .ok (.putfield 187, 3) := by decide +kernel
theorem dX6_skips_46 : decode M_X6_skips.2.1 46 = .ok (.return_, 1) := by decide +kernel
theorem dX6_isFigure_0 : decode M_X6_isFigure.2.1 0 = .ok (.aload_n 0, 1) := by decide +kernel
theorem dX6_isFigure_1 : decode M_X6_isFigure.2.1 1 = .ok (.getfield 181, 3) := by decide +kernel
theorem dX6_isFigure_4 : decode M_X6_isFigure.2.1 4 = .ok (.aload_n 0, 1) := by decide +kernel
theorem dX6_isFigure_5 : decode M_X6_isFigure.2.1 5 = .ok (.getfield 184, 3) := by decide +kernel
theorem dX6_isFigure_8 : decode M_X6_isFigure.2.1 8 = .ok (.if_icmp .ge 26, 3) := by decide +kernel
theorem dX6_isFigure_11 : decode M_X6_isFigure.2.1 11 = .ok (.aload_n 0, 1) := by decide +kernel
theorem dX6_isFigure_12 : decode M_X6_isFigure.2.1 12 = .ok (.getfield 23, 3) := by decide +kernel
theorem dX6_isFigure_15 : decode M_X6_isFigure.2.1 15 = .ok (.aload_n 0, 1) := by decide +kernel
theorem dX6_isFigure_16 : decode M_X6_isFigure.2.1 16 = .ok (.getfield 181, 3) := by decide +kernel
theorem dX6_isFigure_19 : decode M_X6_isFigure.2.1 19 = .ok (.iaload, 1) := by decide +kernel
theorem dX6_isFigure_20 : decode M_X6_isFigure.2.1 20 = .ok (.bipush 48, 2) := by decide +kernel
theorem dX6_isFigure_22 : decode M_X6_isFigure.2.1 22 = .ok (.bipush 57, 2) := by decide +kernel
theorem dX6_isFigure_24 : decode M_X6_isFigure.2.1 24 = .ok (.invokestatic 54, 3) := by decide +kernel
theorem dX6_isFigure_27 : decode M_X6_isFigure.2.1 27 = .ok (.ifCond .eq 7, 3) := by decide +kernel
theorem dX6_isFigure_30 : decode M_X6_isFigure.2.1 30 = .ok (.iconst 1, 1) := by decide +kernel
theorem dX6_isFigure_31 : decode M_X6_isFigure.2.1 31 = .ok (.goto 4, 3) := by decide +kernel
theorem dX6_isFigure_34 : decode M_X6_isFigure.2.1 34 = .ok (.iconst 0, 1) := by decide +kernel
theorem dX6_isFigure_35 : decode M_X6_isFigure.2.1 35 = .ok (.ireturn, 1) := by decide +kernel
theorem dX6_passes_0 : decode M_X6_passes.2.1 0 = .ok (.aload_n 0, 1) := by decide +kernel
theorem dX6_passes_1 : decode M_X6_passes.2.1 1 = .ok (.invokevirtual 190, 3) := by decide +kernel
theorem dX6_passes_4 : decode M_X6_passes.2.1 4 = .ok (.aload_n 0, 1) := by decide +kernel
theorem dX6_passes_5 : decode M_X6_passes.2.1 5 = .ok (.getfield 181, 3) := by decide +kernel
theorem dX6_passes_8 : decode M_X6_passes.2.1 8 = .ok (.aload_n 0, 1) := by decide +kernel
theorem dX6_passes_9 : decode M_X6_passes.2.1 9 = .ok (.getfield 184, 3) := by decide +kernel
theorem dX6_passes_12 : decode M_X6_passes.2.1 12 = .ok (.if_icmp .ge 20, 3) := by decide +kernel
theorem dX6_passes_15 : decode M_X6_passes.2.1 15 = .ok (.aload_n 0, 1) := by decide +kernel
theorem dX6_passes_16 : decode M_X6_passes.2.1 16 = .ok (.getfield 23, 3) := by decide +kernel
theorem dX6_passes_19 : decode M_X6_passes.2.1 19 = .ok (.aload_n 0, 1) := by decide +kernel
theorem dX6_passes_20 : decode M_X6_passes.2.1 20 = .ok (.getfield 181, 3) := by decide +kernel
theorem dX6_passes_23 : decode M_X6_passes.2.1 23 = .ok (.iaload, 1) := by decide +kernel
theorem dX6_passes_24 : decode M_X6_passes.2.1 24 = .ok (.iload_n 1, 1) := by decide +kernel
theorem dX6_passes_25 : decode M_X6_passes.2.1 25 = .ok (.if_icmp .ne 7, 3) := by decide +kernel
theorem dX6_passes_28 : decode M_X6_passes.2.1 28 = .ok (.iconst 1, 1) := by decide +kernel
theorem dX6_passes_29 : decode M_X6_passes.2.1 29 = .ok (.goto 4, 3) := by decide +kernel
theorem dX6_passes_32 : decode M_X6_passes.2.1 32 = .ok (.iconst 0, 1) := by decide +kernel
theorem dX6_passes_33 : decode M_X6_passes.2.1 33 = .ok (.istore_n 2, 1) := by decide +kernel
theorem dX6_passes_34 : decode M_X6_passes.2.1 34 = .ok (.aload_n 0, 1) := by decide +kernel
theorem dX6_passes_35 : decode M_X6_passes.2.1 35 = .ok (.dup, 1) := by decide +kernel
theorem dX6_passes_36 : decode M_X6_passes.2.1 36 = .ok (.getfield 181, 3) := by decide +kernel
theorem dX6_passes_39 : decode M_X6_passes.2.1 39 = .ok (.iload_n 2, 1) := by decide +kernel
theorem dX6_passes_40 : decode M_X6_passes.2.1 40 = .ok (.ifCond .eq 7, 3) := by decide +kernel
theorem dX6_passes_43 : decode M_X6_passes.2.1 43 = .ok (.iconst 1, 1) := by decide +kernel
theorem dX6_passes_44 : decode M_X6_passes.2.1 44 = .ok (.goto 4, 3) := by decide +kernel
theorem dX6_passes_47 : decode M_X6_passes.2.1 47 = .ok (.iconst 0, 1) := by decide +kernel
theorem dX6_passes_48 : decode M_X6_passes.2.1 48 = .ok (.iadd, 1) := by decide +kernel
theorem dX6_passes_49 : decode M_X6_passes.2.1 49 = .ok (.putfield 181, 3) := by decide +kernel
theorem dX6_passes_52 : decode M_X6_passes.2.1 52 = .ok (.iload_n 2, 1) := by decide +kernel
theorem dX6_passes_53 : decode M_X6_passes.2.1 53 = .ok (.ireturn, 1) := by decide +kernel
theorem dX6_number_0 : decode M_X6_number.2.1 0 = .ok (.aload_n 0, 1) := by decide +kernel
theorem dX6_number_1 : decode M_X6_number.2.1 1 = .ok (.invokevirtual 190, 3) := by decide +kernel
theorem dX6_number_4 : decode M_X6_number.2.1 4 = .ok (.iconst 0, 1) := by decide +kernel
theorem dX6_number_5 : decode M_X6_number.2.1 5 = .ok (.istore_n 3, 1) := by decide +kernel
theorem dX6_number_6 : decode M_X6_number.2.1 6 = .ok (.iconst 0, 1) := by decide +kernel
theorem dX6_number_7 : decode M_X6_number.2.1 7 = .ok (.istore 4, 2) := by decide +kernel
theorem dX6_number_9 : decode M_X6_number.2.1 9 = .ok (.aload_n 0, 1) := by decide +kernel
theorem dX6_number_10 : decode M_X6_number.2.1 10 = .ok (.invokevirtual 193, 3) := by decide +kernel
theorem dX6_number_13 : decode M_X6_number.2.1 13 = .ok (.ifCond .eq 48, 3) := by decide +kernel
theorem dX6_number_16 : decode M_X6_number.2.1 16 = .ok (.iload_n 3, 1) := by decide +kernel
theorem dX6_number_17 : decode M_X6_number.2.1 17 = .ok (.bipush 99, 2) := by decide +kernel
theorem dX6_number_19 : decode M_X6_number.2.1 19 = .ok (.if_icmp .le 8, 3) := by decide +kernel
theorem dX6_number_22 : decode M_X6_number.2.1 22 = .ok (.bipush 100, 2) := by decide +kernel
theorem dX6_number_24 : decode M_X6_number.2.1 24 = .ok (.goto 20, 3) := by decide +kernel
theorem dX6_number_27 : decode M_X6_number.2.1 27 = .ok (.bipush 10, 2) := by decide +kernel
theorem dX6_number_29 : decode M_X6_number.2.1 29 = .ok (.iload_n 3, 1) := by decide +kernel
theorem dX6_number_30 : decode M_X6_number.2.1 30 = .ok (.imul, 1) := by decide +kernel
theorem dX6_number_31 : decode M_X6_number.2.1 31 = .ok (.aload_n 0, 1) := by decide +kernel
theorem dX6_number_32 : decode M_X6_number.2.1 32 = .ok (.getfield 23, 3) := by decide +kernel
theorem dX6_number_35 : decode M_X6_number.2.1 35 = .ok (.aload_n 0, 1) := by decide +kernel
theorem dX6_number_36 : decode M_X6_number.2.1 36 = .ok (.getfield 181, 3) := by decide +kernel
theorem dX6_number_39 : decode M_X6_number.2.1 39 = .ok (.iaload, 1) := by decide +kernel
theorem dX6_number_40 : decode M_X6_number.2.1 40 = .ok (.iadd, 1) := by decide +kernel
theorem dX6_number_41 : decode M_X6_number.2.1 41 = .ok (.bipush 48, 2) := by decide +kernel
theorem dX6_number_43 : decode M_X6_number.2.1 43 = .ok (.isub, 1) := by decide +kernel
theorem dX6_number_44 : decode M_X6_number.2.1 44 = .ok (.istore_n 3, 1) := by decide +kernel
theorem dX6_number_45 : decode M_X6_number.2.1 45 = .ok (.aload_n 0, 1) := by decide +kernel
theorem dX6_number_46 : decode M_X6_number.2.1 46 = .ok (.dup, 1) := by decide +kernel
theorem dX6_number_47 : decode M_X6_number.2.1 47 = .ok (.getfield 181, 3) := by decide +kernel
theorem dX6_number_50 : decode M_X6_number.2.1 50 = .ok (.iconst 1, 1) := by decide +kernel
theorem dX6_number_51 : decode M_X6_number.2.1 51 = .ok (.iadd, 1) := by decide +kernel
theorem dX6_number_52 : decode M_X6_number.2.1 52 = .ok (.putfield 181, 3) := by decide +kernel
theorem dX6_number_55 : decode M_X6_number.2.1 55 = .ok (.iinc 4 1, 3) := by decide +kernel
theorem dX6_number_58 : decode M_X6_number.2.1 58 = .ok (.goto (-49), 3) := by decide +kernel
theorem dX6_number_61 : decode M_X6_number.2.1 61 = .ok (.iload 4, 2) := by decide +kernel
theorem dX6_number_63 : decode M_X6_number.2.1 63 = .ok (.ifCond .le 42, 3) := by decide +kernel
theorem dX6_number_66 : decode M_X6_number.2.1 66 = .ok (.iload_n 3, 1) := by decide +kernel
theorem dX6_number_67 : decode M_X6_number.2.1 67 = .ok (.bipush 99, 2) := by decide +kernel
theorem dX6_number_69 : decode M_X6_number.2.1 69 = .ok (.if_icmp .gt 36, 3) := by decide +kernel
theorem dX6_number_72 : decode M_X6_number.2.1 72 = .ok (.iload 4, 2) := by decide +kernel
theorem dX6_number_74 : decode M_X6_number.2.1 74 = .ok (.iconst 1, 1) := by decide +kernel
theorem dX6_number_75 : decode M_X6_number.2.1 75 = .ok (.if_icmp .eq 17, 3) := by decide +kernel
theorem dX6_number_78 : decode M_X6_number.2.1 78 = .ok (.aload_n 0, 1) := by decide +kernel
theorem dX6_number_79 : decode M_X6_number.2.1 79 = .ok (.getfield 23, 3) := by decide +kernel
theorem dX6_number_82 : decode M_X6_number.2.1 82 = .ok (.aload_n 0, 1) := by decide +kernel
theorem dX6_number_83 : decode M_X6_number.2.1 83 = .ok (.getfield 187, 3) := by decide +kernel
theorem dX6_number_86 : decode M_X6_number.2.1 86 = .ok (.iaload, 1) := by decide +kernel
theorem dX6_number_87 : decode M_X6_number.2.1 87 = .ok (.bipush 48, 2) := by decide +kernel
theorem dX6_number_89 : decode M_X6_number.2.1 89 = .ok (.if_icmp .eq 16, 3) := by decide +kernel
theorem dX6_number_92 : decode M_X6_number.2.1 92 = .ok (.iload_n 3, 1) := by decide +kernel
theorem dX6_number_93 : decode M_X6_number.2.1 93 = .ok (.iload_n 1, 1) := by decide +kernel
theorem dX6_number_94 : decode M_X6_number.2.1 94 = .ok (.iload_n 2, 1) := by decide +kernel
theorem dX6_number_95 : decode M_X6_number.2.1 95 = .ok (.invokestatic 54, 3) := by decide +kernel
theorem dX6_number_98 : decode M_X6_number.2.1 98 = .ok (.ifCond .eq 7, 3) := by decide +kernel
theorem dX6_number_101 : decode M_X6_number.2.1 101 = .ok (.iconst 1, 1) := by decide +kernel
theorem dX6_number_102 : decode M_X6_number.2.1 102 = .ok (.goto 4, 3) := by decide +kernel
theorem dX6_number_105 : decode M_X6_number.2.1 105 = .ok (.iconst 0, 1) := by decide +kernel
theorem dX6_number_106 : decode M_X6_number.2.1 106 = .ok (.istore 5, 2) := by decide +kernel
theorem dX6_number_108 : decode M_X6_number.2.1 108 = .ok (.iload 5, 2) := by decide +kernel
theorem dX6_number_110 : decode M_X6_number.2.1 110 = .ok (.ifCond .eq 7, 3) := by decide +kernel
theorem dX6_number_113 : decode M_X6_number.2.1 113 = .ok (.iload_n 3, 1) := by decide +kernel
theorem dX6_number_114 : decode M_X6_number.2.1 114 = .ok (.goto 4, 3) := by decide +kernel
theorem dX6_number_117 : decode M_X6_number.2.1 117 = .ok (.iconst (-1), 1) := by decide +kernel
theorem dX6_number_118 : decode M_X6_number.2.1 118 = .ok (.ireturn, 1) := by decide +kernel
theorem dX6_readsBlock_0 : decode M_X6_readsBlock.2.1 0 = .ok (.aload_n 0, 1) := by decide +kernel
theorem dX6_readsBlock_1 : decode M_X6_readsBlock.2.1 1 = .ok (.getfield 7, 3) := by decide +kernel
theorem dX6_readsBlock_4 : decode M_X6_readsBlock.2.1 4 = .ok (.iconst 0, 1) := by decide +kernel
theorem dX6_readsBlock_5 : decode M_X6_readsBlock.2.1 5 = .ok (.iaload, 1) := by decide +kernel
theorem dX6_readsBlock_6 : decode M_X6_readsBlock.2.1 6 = .ok (.iconst 4, 1) := by decide +kernel
theorem dX6_readsBlock_7 : decode M_X6_readsBlock.2.1 7 = .ok (.if_icmp .ne 5, 3) := by decide +kernel
theorem dX6_readsBlock_10 : decode M_X6_readsBlock.2.1 10 = .ok (.iconst 0, 1) := by decide +kernel
theorem dX6_readsBlock_11 : decode M_X6_readsBlock.2.1 11 = .ok (.ireturn, 1) := by decide +kernel
theorem dX6_readsBlock_12 : decode M_X6_readsBlock.2.1 12 = .ok (.aload_n 0, 1) := by decide +kernel
theorem dX6_readsBlock_13 : decode M_X6_readsBlock.2.1 13 = .ok (.iconst 0, 1) := by decide +kernel
theorem dX6_readsBlock_14 : decode M_X6_readsBlock.2.1 14 = .ok (.bipush 9, 2) := by decide +kernel
theorem dX6_readsBlock_16 : decode M_X6_readsBlock.2.1 16 = .ok (.invokevirtual 196, 3) := by decide +kernel
theorem dX6_readsBlock_19 : decode M_X6_readsBlock.2.1 19 = .ok (.istore_n 1, 1) := by decide +kernel
theorem dX6_readsBlock_20 : decode M_X6_readsBlock.2.1 20 = .ok (.iload_n 1, 1) := by decide +kernel
theorem dX6_readsBlock_21 : decode M_X6_readsBlock.2.1 21 = .ok (.ifCond .ge 7, 3) := by decide +kernel
theorem dX6_readsBlock_24 : decode M_X6_readsBlock.2.1 24 = .ok (.iconst (-1), 1) := by decide +kernel
theorem dX6_readsBlock_25 : decode M_X6_readsBlock.2.1 25 = .ok (.goto 9, 3) := by decide +kernel
theorem dX6_readsBlock_28 : decode M_X6_readsBlock.2.1 28 = .ok (.aload_n 0, 1) := by decide +kernel
theorem dX6_readsBlock_29 : decode M_X6_readsBlock.2.1 29 = .ok (.iconst 1, 1) := by decide +kernel
theorem dX6_readsBlock_30 : decode M_X6_readsBlock.2.1 30 = .ok (.iconst 3, 1) := by decide +kernel
theorem dX6_readsBlock_31 : decode M_X6_readsBlock.2.1 31 = .ok (.invokevirtual 196, 3) := by decide +kernel
theorem dX6_readsBlock_34 : decode M_X6_readsBlock.2.1 34 = .ok (.istore_n 2, 1) := by decide +kernel
theorem dX6_readsBlock_35 : decode M_X6_readsBlock.2.1 35 = .ok (.iload_n 2, 1) := by decide +kernel
theorem dX6_readsBlock_36 : decode M_X6_readsBlock.2.1 36 = .ok (.ifCond .ge 7, 3) := by decide +kernel
theorem dX6_readsBlock_39 : decode M_X6_readsBlock.2.1 39 = .ok (.iconst (-1), 1) := by decide +kernel
theorem dX6_readsBlock_40 : decode M_X6_readsBlock.2.1 40 = .ok (.goto 10, 3) := by decide +kernel
theorem dX6_readsBlock_43 : decode M_X6_readsBlock.2.1 43 = .ok (.aload_n 0, 1) := by decide +kernel
theorem dX6_readsBlock_44 : decode M_X6_readsBlock.2.1 44 = .ok (.iconst 1, 1) := by decide +kernel
theorem dX6_readsBlock_45 : decode M_X6_readsBlock.2.1 45 = .ok (.bipush 9, 2) := by decide +kernel
theorem dX6_readsBlock_47 : decode M_X6_readsBlock.2.1 47 = .ok (.invokevirtual 196, 3) := by decide +kernel
theorem dX6_readsBlock_50 : decode M_X6_readsBlock.2.1 50 = .ok (.istore_n 3, 1) := by decide +kernel
theorem dX6_readsBlock_51 : decode M_X6_readsBlock.2.1 51 = .ok (.iload_n 3, 1) := by decide +kernel
theorem dX6_readsBlock_52 : decode M_X6_readsBlock.2.1 52 = .ok (.ifCond .lt 12, 3) := by decide +kernel
theorem dX6_readsBlock_55 : decode M_X6_readsBlock.2.1 55 = .ok (.aload_n 0, 1) := by decide +kernel
theorem dX6_readsBlock_56 : decode M_X6_readsBlock.2.1 56 = .ok (.bipush 59, 2) := by decide +kernel
theorem dX6_readsBlock_58 : decode M_X6_readsBlock.2.1 58 = .ok (.invokevirtual 199, 3) := by decide +kernel
theorem dX6_readsBlock_61 : decode M_X6_readsBlock.2.1 61 = .ok (.ifCond .ne 5, 3) := by decide +kernel
theorem dX6_readsBlock_64 : decode M_X6_readsBlock.2.1 64 = .ok (.iconst 0, 1) := by decide +kernel
theorem dX6_readsBlock_65 : decode M_X6_readsBlock.2.1 65 = .ok (.ireturn, 1) := by decide +kernel
theorem dX6_readsBlock_66 : decode M_X6_readsBlock.2.1 66 = .ok (.aload_n 0, 1) := by decide +kernel
theorem dX6_readsBlock_67 : decode M_X6_readsBlock.2.1 67 = .ok (.iload_n 1, 1) := by decide +kernel
theorem dX6_readsBlock_68 : decode M_X6_readsBlock.2.1 68 = .ok (.iload_n 2, 1) := by decide +kernel
theorem dX6_readsBlock_69 : decode M_X6_readsBlock.2.1 69 = .ok (.iload_n 3, 1) := by decide +kernel
theorem dX6_readsBlock_70 : decode M_X6_readsBlock.2.1 70 = .ok (.invokevirtual 202, 3) := by decide +kernel
theorem dX6_readsBlock_73 : decode M_X6_readsBlock.2.1 73 = .ok (.iconst 1, 1) := by decide +kernel
theorem dX6_readsBlock_74 : decode M_X6_readsBlock.2.1 74 = .ok (.ireturn, 1) := by decide +kernel
theorem dX6_readsLoad_0 : decode M_X6_readsLoad.2.1 0 = .ok (.aload_n 0, 1) := by decide +kernel
theorem dX6_readsLoad_1 : decode M_X6_readsLoad.2.1 1 = .ok (.iconst 0, 1) := by decide +kernel
theorem dX6_readsLoad_2 : decode M_X6_readsLoad.2.1 2 = .ok (.aload_n 0, 1) := by decide +kernel
theorem dX6_readsLoad_3 : decode M_X6_readsLoad.2.1 3 = .ok (.getfield 7, 3) := by decide +kernel
theorem dX6_readsLoad_6 : decode M_X6_readsLoad.2.1 6 = .ok (.iconst 0, 1) := by decide +kernel
theorem dX6_readsLoad_7 : decode M_X6_readsLoad.2.1 7 = .ok (.iaload, 1) := by decide +kernel
theorem dX6_readsLoad_8 : decode M_X6_readsLoad.2.1 8 = .ok (.iconst 1, 1) := by decide +kernel
theorem dX6_readsLoad_9 : decode M_X6_readsLoad.2.1 9 = .ok (.isub, 1) := by decide +kernel
theorem dX6_readsLoad_10 : decode M_X6_readsLoad.2.1 10 = .ok (.invokevirtual 196, 3) := by decide +kernel
theorem dX6_readsLoad_13 : decode M_X6_readsLoad.2.1 13 = .ok (.istore_n 1, 1) := by decide +kernel
theorem dX6_readsLoad_14 : decode M_X6_readsLoad.2.1 14 = .ok (.iload_n 1, 1) := by decide +kernel
theorem dX6_readsLoad_15 : decode M_X6_readsLoad.2.1 15 = .ok (.ifCond .ge 7, 3) := by decide +kernel
theorem dX6_readsLoad_18 : decode M_X6_readsLoad.2.1 18 = .ok (.iconst (-1), 1) := by decide +kernel
theorem dX6_readsLoad_19 : decode M_X6_readsLoad.2.1 19 = .ok (.goto 16, 3) := by decide +kernel
theorem dX6_readsLoad_22 : decode M_X6_readsLoad.2.1 22 = .ok (.aload_n 0, 1) := by decide +kernel
theorem dX6_readsLoad_23 : decode M_X6_readsLoad.2.1 23 = .ok (.iconst 0, 1) := by decide +kernel
theorem dX6_readsLoad_24 : decode M_X6_readsLoad.2.1 24 = .ok (.iconst 2, 1) := by decide +kernel
theorem dX6_readsLoad_25 : decode M_X6_readsLoad.2.1 25 = .ok (.aload_n 0, 1) := by decide +kernel
theorem dX6_readsLoad_26 : decode M_X6_readsLoad.2.1 26 = .ok (.iload_n 1, 1) := by decide +kernel
theorem dX6_readsLoad_27 : decode M_X6_readsLoad.2.1 27 = .ok (.iconst 2, 1) := by decide +kernel
theorem dX6_readsLoad_28 : decode M_X6_readsLoad.2.1 28 = .ok (.invokevirtual 58, 3) := by decide +kernel
theorem dX6_readsLoad_31 : decode M_X6_readsLoad.2.1 31 = .ok (.imul, 1) := by decide +kernel
theorem dX6_readsLoad_32 : decode M_X6_readsLoad.2.1 32 = .ok (.invokevirtual 196, 3) := by decide +kernel
theorem dX6_readsLoad_35 : decode M_X6_readsLoad.2.1 35 = .ok (.istore_n 2, 1) := by decide +kernel
theorem dX6_readsLoad_36 : decode M_X6_readsLoad.2.1 36 = .ok (.iload_n 2, 1) := by decide +kernel
theorem dX6_readsLoad_37 : decode M_X6_readsLoad.2.1 37 = .ok (.ifCond .ge 7, 3) := by decide +kernel
theorem dX6_readsLoad_40 : decode M_X6_readsLoad.2.1 40 = .ok (.iconst (-1), 1) := by decide +kernel
theorem dX6_readsLoad_41 : decode M_X6_readsLoad.2.1 41 = .ok (.goto 10, 3) := by decide +kernel
theorem dX6_readsLoad_44 : decode M_X6_readsLoad.2.1 44 = .ok (.aload_n 0, 1) := by decide +kernel
theorem dX6_readsLoad_45 : decode M_X6_readsLoad.2.1 45 = .ok (.iconst 0, 1) := by decide +kernel
theorem dX6_readsLoad_46 : decode M_X6_readsLoad.2.1 46 = .ok (.bipush 20, 2) := by decide +kernel
theorem dX6_readsLoad_48 : decode M_X6_readsLoad.2.1 48 = .ok (.invokevirtual 196, 3) := by decide +kernel
theorem dX6_readsLoad_51 : decode M_X6_readsLoad.2.1 51 = .ok (.istore_n 3, 1) := by decide +kernel
theorem dX6_readsLoad_52 : decode M_X6_readsLoad.2.1 52 = .ok (.iload_n 3, 1) := by decide +kernel
theorem dX6_readsLoad_53 : decode M_X6_readsLoad.2.1 53 = .ok (.ifCond .lt 12, 3) := by decide +kernel
theorem dX6_readsLoad_56 : decode M_X6_readsLoad.2.1 56 = .ok (.aload_n 0, 1) := by decide +kernel
theorem dX6_readsLoad_57 : decode M_X6_readsLoad.2.1 57 = .ok (.bipush 59, 2) := by decide +kernel
theorem dX6_readsLoad_59 : decode M_X6_readsLoad.2.1 59 = .ok (.invokevirtual 199, 3) := by decide +kernel
theorem dX6_readsLoad_62 : decode M_X6_readsLoad.2.1 62 = .ok (.ifCond .ne 5, 3) := by decide +kernel
theorem dX6_readsLoad_65 : decode M_X6_readsLoad.2.1 65 = .ok (.iconst 0, 1) := by decide +kernel
theorem dX6_readsLoad_66 : decode M_X6_readsLoad.2.1 66 = .ok (.ireturn, 1) := by decide +kernel
theorem dX6_readsLoad_67 : decode M_X6_readsLoad.2.1 67 = .ok (.aload_n 0, 1) := by decide +kernel
theorem dX6_readsLoad_68 : decode M_X6_readsLoad.2.1 68 = .ok (.getfield 7, 3) := by decide +kernel
theorem dX6_readsLoad_71 : decode M_X6_readsLoad.2.1 71 = .ok (.iconst 5, 1) := by decide +kernel
theorem dX6_readsLoad_72 : decode M_X6_readsLoad.2.1 72 = .ok (.iload_n 1, 1) := by decide +kernel
theorem dX6_readsLoad_73 : decode M_X6_readsLoad.2.1 73 = .ok (.imul, 1) := by decide +kernel
theorem dX6_readsLoad_74 : decode M_X6_readsLoad.2.1 74 = .ok (.iconst 4, 1) := by decide +kernel
theorem dX6_readsLoad_75 : decode M_X6_readsLoad.2.1 75 = .ok (.iadd, 1) := by decide +kernel
theorem dX6_readsLoad_76 : decode M_X6_readsLoad.2.1 76 = .ok (.iload_n 3, 1) := by decide +kernel
theorem dX6_readsLoad_77 : decode M_X6_readsLoad.2.1 77 = .ok (.iastore, 1) := by decide +kernel
theorem dX6_readsLoad_78 : decode M_X6_readsLoad.2.1 78 = .ok (.aload_n 0, 1) := by decide +kernel
theorem dX6_readsLoad_79 : decode M_X6_readsLoad.2.1 79 = .ok (.getfield 7, 3) := by decide +kernel
theorem dX6_readsLoad_82 : decode M_X6_readsLoad.2.1 82 = .ok (.iconst 5, 1) := by decide +kernel
theorem dX6_readsLoad_83 : decode M_X6_readsLoad.2.1 83 = .ok (.iload_n 1, 1) := by decide +kernel
theorem dX6_readsLoad_84 : decode M_X6_readsLoad.2.1 84 = .ok (.imul, 1) := by decide +kernel
theorem dX6_readsLoad_85 : decode M_X6_readsLoad.2.1 85 = .ok (.iconst 5, 1) := by decide +kernel
theorem dX6_readsLoad_86 : decode M_X6_readsLoad.2.1 86 = .ok (.iadd, 1) := by decide +kernel
theorem dX6_readsLoad_87 : decode M_X6_readsLoad.2.1 87 = .ok (.iload_n 2, 1) := by decide +kernel
theorem dX6_readsLoad_88 : decode M_X6_readsLoad.2.1 88 = .ok (.iastore, 1) := by decide +kernel
theorem dX6_readsLoad_89 : decode M_X6_readsLoad.2.1 89 = .ok (.iconst 1, 1) := by decide +kernel
theorem dX6_readsLoad_90 : decode M_X6_readsLoad.2.1 90 = .ok (.ireturn, 1) := by decide +kernel
theorem dX6_reads_0 : decode M_X6_reads.2.1 0 = .ok (.aload_n 0, 1) := by decide +kernel
theorem dX6_reads_1 : decode M_X6_reads.2.1 1 = .ok (.iconst 0, 1) := by decide +kernel
theorem dX6_reads_2 : decode M_X6_reads.2.1 2 = .ok (.putfield 181, 3) := by decide +kernel
theorem dX6_reads_5 : decode M_X6_reads.2.1 5 = .ok (.aload_n 0, 1) := by decide +kernel
theorem dX6_reads_6 : decode M_X6_reads.2.1 6 = .ok (.iconst 0, 1) := by decide +kernel
theorem dX6_reads_7 : decode M_X6_reads.2.1 7 = .ok (.putfield 205, 3) := by decide +kernel
theorem dX6_reads_10 : decode M_X6_reads.2.1 10 = .ok (.aload_n 0, 1) := by decide +kernel
theorem dX6_reads_11 : decode M_X6_reads.2.1 11 = .ok (.getfield 7, 3) := by decide +kernel
theorem dX6_reads_14 : decode M_X6_reads.2.1 14 = .ok (.iconst 0, 1) := by decide +kernel
theorem dX6_reads_15 : decode M_X6_reads.2.1 15 = .ok (.iconst 0, 1) := by decide +kernel
theorem dX6_reads_16 : decode M_X6_reads.2.1 16 = .ok (.iastore, 1) := by decide +kernel
theorem dX6_reads_17 : decode M_X6_reads.2.1 17 = .ok (.aload_n 0, 1) := by decide +kernel
theorem dX6_reads_18 : decode M_X6_reads.2.1 18 = .ok (.invokevirtual 190, 3) := by decide +kernel
theorem dX6_reads_21 : decode M_X6_reads.2.1 21 = .ok (.aload_n 0, 1) := by decide +kernel
theorem dX6_reads_22 : decode M_X6_reads.2.1 22 = .ok (.getfield 181, 3) := by decide +kernel
theorem dX6_reads_25 : decode M_X6_reads.2.1 25 = .ok (.aload_n 0, 1) := by decide +kernel
theorem dX6_reads_26 : decode M_X6_reads.2.1 26 = .ok (.getfield 184, 3) := by decide +kernel
theorem dX6_reads_29 : decode M_X6_reads.2.1 29 = .ok (.if_icmp .ge 64, 3) := by decide +kernel
theorem dX6_reads_32 : decode M_X6_reads.2.1 32 = .ok (.aload_n 0, 1) := by decide +kernel
theorem dX6_reads_33 : decode M_X6_reads.2.1 33 = .ok (.bipush 98, 2) := by decide +kernel
theorem dX6_reads_35 : decode M_X6_reads.2.1 35 = .ok (.invokevirtual 199, 3) := by decide +kernel
theorem dX6_reads_38 : decode M_X6_reads.2.1 38 = .ok (.ifCond .eq 10, 3) := by decide +kernel
theorem dX6_reads_41 : decode M_X6_reads.2.1 41 = .ok (.aload_n 0, 1) := by decide +kernel
theorem dX6_reads_42 : decode M_X6_reads.2.1 42 = .ok (.invokevirtual 208, 3) := by decide +kernel
theorem dX6_reads_45 : decode M_X6_reads.2.1 45 = .ok (.goto 24, 3) := by decide +kernel
theorem dX6_reads_48 : decode M_X6_reads.2.1 48 = .ok (.aload_n 0, 1) := by decide +kernel
theorem dX6_reads_49 : decode M_X6_reads.2.1 49 = .ok (.bipush 108, 2) := by decide +kernel
theorem dX6_reads_51 : decode M_X6_reads.2.1 51 = .ok (.invokevirtual 199, 3) := by decide +kernel
theorem dX6_reads_54 : decode M_X6_reads.2.1 54 = .ok (.ifCond .eq 14, 3) := by decide +kernel
theorem dX6_reads_57 : decode M_X6_reads.2.1 57 = .ok (.aload_n 0, 1) := by decide +kernel
theorem dX6_reads_58 : decode M_X6_reads.2.1 58 = .ok (.invokevirtual 211, 3) := by decide +kernel
theorem dX6_reads_61 : decode M_X6_reads.2.1 61 = .ok (.ifCond .eq 7, 3) := by decide +kernel
theorem dX6_reads_64 : decode M_X6_reads.2.1 64 = .ok (.iconst 1, 1) := by decide +kernel
theorem dX6_reads_65 : decode M_X6_reads.2.1 65 = .ok (.goto 4, 3) := by decide +kernel
theorem dX6_reads_68 : decode M_X6_reads.2.1 68 = .ok (.iconst 0, 1) := by decide +kernel
theorem dX6_reads_69 : decode M_X6_reads.2.1 69 = .ok (.istore_n 1, 1) := by decide +kernel
theorem dX6_reads_70 : decode M_X6_reads.2.1 70 = .ok (.iload_n 1, 1) := by decide +kernel
theorem dX6_reads_71 : decode M_X6_reads.2.1 71 = .ok (.ifCond .ne 5, 3) := by decide +kernel
theorem dX6_reads_74 : decode M_X6_reads.2.1 74 = .ok (.iconst 0, 1) := by decide +kernel
theorem dX6_reads_75 : decode M_X6_reads.2.1 75 = .ok (.ireturn, 1) := by decide +kernel
theorem dX6_reads_76 : decode M_X6_reads.2.1 76 = .ok (.aload_n 0, 1) := by decide +kernel
theorem dX6_reads_77 : decode M_X6_reads.2.1 77 = .ok (.dup, 1) := by decide +kernel
theorem dX6_reads_78 : decode M_X6_reads.2.1 78 = .ok (.getfield 205, 3) := by decide +kernel
theorem dX6_reads_81 : decode M_X6_reads.2.1 81 = .ok (.iconst 1, 1) := by decide +kernel
theorem dX6_reads_82 : decode M_X6_reads.2.1 82 = .ok (.iadd, 1) := by decide +kernel
theorem dX6_reads_83 : decode M_X6_reads.2.1 83 = .ok (.putfield 205, 3) := by decide +kernel
theorem dX6_reads_86 : decode M_X6_reads.2.1 86 = .ok (.aload_n 0, 1) := by decide +kernel
theorem dX6_reads_87 : decode M_X6_reads.2.1 87 = .ok (.invokevirtual 190, 3) := by decide +kernel
theorem dX6_reads_90 : decode M_X6_reads.2.1 90 = .ok (.goto (-69), 3) := by decide +kernel
theorem dX6_reads_93 : decode M_X6_reads.2.1 93 = .ok (.iconst 1, 1) := by decide +kernel
theorem dX6_reads_94 : decode M_X6_reads.2.1 94 = .ok (.ireturn, 1) := by decide +kernel
theorem dX6_type_0 : decode M_X6_type.2.1 0 = .ok (.iload_n 1, 1) := by decide +kernel
theorem dX6_type_1 : decode M_X6_type.2.1 1 = .ok (.iconst 0, 1) := by decide +kernel
theorem dX6_type_2 : decode M_X6_type.2.1 2 = .ok (.sipush 255, 3) := by decide +kernel
theorem dX6_type_5 : decode M_X6_type.2.1 5 = .ok (.invokestatic 54, 3) := by decide +kernel
theorem dX6_type_8 : decode M_X6_type.2.1 8 = .ok (.ifCond .ne 5, 3) := by decide +kernel
theorem dX6_type_11 : decode M_X6_type.2.1 11 = .ok (.iconst (-1), 1) := by decide +kernel
theorem dX6_type_12 : decode M_X6_type.2.1 12 = .ok (.ireturn, 1) := by decide +kernel
theorem dX6_type_13 : decode M_X6_type.2.1 13 = .ok (.aload_n 0, 1) := by decide +kernel
theorem dX6_type_14 : decode M_X6_type.2.1 14 = .ok (.getfield 184, 3) := by decide +kernel
theorem dX6_type_17 : decode M_X6_type.2.1 17 = .ok (.bipush 120, 2) := by decide +kernel
theorem dX6_type_19 : decode M_X6_type.2.1 19 = .ok (.if_icmp .ne 6, 3) := by decide +kernel
theorem dX6_type_22 : decode M_X6_type.2.1 22 = .ok (.bipush (-3), 2) := by decide +kernel
theorem dX6_type_24 : decode M_X6_type.2.1 24 = .ok (.ireturn, 1) := by decide +kernel
theorem dX6_type_25 : decode M_X6_type.2.1 25 = .ok (.aload_n 0, 1) := by decide +kernel
theorem dX6_type_26 : decode M_X6_type.2.1 26 = .ok (.getfield 23, 3) := by decide +kernel
theorem dX6_type_29 : decode M_X6_type.2.1 29 = .ok (.aload_n 0, 1) := by decide +kernel
theorem dX6_type_30 : decode M_X6_type.2.1 30 = .ok (.getfield 184, 3) := by decide +kernel
theorem dX6_type_33 : decode M_X6_type.2.1 33 = .ok (.iload_n 1, 1) := by decide +kernel
theorem dX6_type_34 : decode M_X6_type.2.1 34 = .ok (.iastore, 1) := by decide +kernel
theorem dX6_type_35 : decode M_X6_type.2.1 35 = .ok (.aload_n 0, 1) := by decide +kernel
theorem dX6_type_36 : decode M_X6_type.2.1 36 = .ok (.dup, 1) := by decide +kernel
theorem dX6_type_37 : decode M_X6_type.2.1 37 = .ok (.getfield 184, 3) := by decide +kernel
theorem dX6_type_40 : decode M_X6_type.2.1 40 = .ok (.iconst 1, 1) := by decide +kernel
theorem dX6_type_41 : decode M_X6_type.2.1 41 = .ok (.iadd, 1) := by decide +kernel
theorem dX6_type_42 : decode M_X6_type.2.1 42 = .ok (.putfield 184, 3) := by decide +kernel
theorem dX6_type_45 : decode M_X6_type.2.1 45 = .ok (.aload_n 0, 1) := by decide +kernel
theorem dX6_type_46 : decode M_X6_type.2.1 46 = .ok (.getfield 184, 3) := by decide +kernel
theorem dX6_type_49 : decode M_X6_type.2.1 49 = .ok (.ireturn, 1) := by decide +kernel
theorem dX6_clear_0 : decode M_X6_clear.2.1 0 = .ok (.aload_n 0, 1) := by decide +kernel
theorem dX6_clear_1 : decode M_X6_clear.2.1 1 = .ok (.getfield 184, 3) := by decide +kernel
theorem dX6_clear_4 : decode M_X6_clear.2.1 4 = .ok (.istore_n 1, 1) := by decide +kernel
theorem dX6_clear_5 : decode M_X6_clear.2.1 5 = .ok (.aload_n 0, 1) := by decide +kernel
theorem dX6_clear_6 : decode M_X6_clear.2.1 6 = .ok (.iconst 0, 1) := by decide +kernel
theorem dX6_clear_7 : decode M_X6_clear.2.1 7 = .ok (.putfield 184, 3) := by decide +kernel
theorem dX6_clear_10 : decode M_X6_clear.2.1 10 = .ok (.iload_n 1, 1) := by decide +kernel
theorem dX6_clear_11 : decode M_X6_clear.2.1 11 = .ok (.ireturn, 1) := by decide +kernel
theorem dX6_lays_0 : decode M_X6_lays.2.1 0 = .ok (.iconst 0, 1) := by decide +kernel
theorem dX6_lays_1 : decode M_X6_lays.2.1 1 = .ok (.istore_n 3, 1) := by decide +kernel
theorem dX6_lays_2 : decode M_X6_lays.2.1 2 = .ok (.iload_n 3, 1) := by decide +kernel
theorem dX6_lays_3 : decode M_X6_lays.2.1 3 = .ok (.bipush 21, 2) := by decide +kernel
theorem dX6_lays_5 : decode M_X6_lays.2.1 5 = .ok (.if_icmp .ge 20, 3) := by decide +kernel
theorem dX6_lays_8 : decode M_X6_lays.2.1 8 = .ok (.aload_n 1, 1) := by decide +kernel
theorem dX6_lays_9 : decode M_X6_lays.2.1 9 = .ok (.iload_n 2, 1) := by decide +kernel
theorem dX6_lays_10 : decode M_X6_lays.2.1 10 = .ok (.iload_n 3, 1) := by decide +kernel
theorem dX6_lays_11 : decode M_X6_lays.2.1 11 = .ok (.iadd, 1) := by decide +kernel
theorem dX6_lays_12 : decode M_X6_lays.2.1 12 = .ok (.aload_n 0, 1) := by decide +kernel
theorem dX6_lays_13 : decode M_X6_lays.2.1 13 = .ok (.getfield 7, 3) := by decide +kernel
theorem dX6_lays_16 : decode M_X6_lays.2.1 16 = .ok (.iload_n 3, 1) := by decide +kernel
theorem dX6_lays_17 : decode M_X6_lays.2.1 17 = .ok (.iaload, 1) := by decide +kernel
theorem dX6_lays_18 : decode M_X6_lays.2.1 18 = .ok (.iastore, 1) := by decide +kernel
theorem dX6_lays_19 : decode M_X6_lays.2.1 19 = .ok (.iinc 3 1, 3) := by decide +kernel
theorem dX6_lays_22 : decode M_X6_lays.2.1 22 = .ok (.goto (-20), 3) := by decide +kernel
theorem dX6_lays_25 : decode M_X6_lays.2.1 25 = .ok (.return_, 1) := by decide +kernel
theorem dX6_takes_0 : decode M_X6_takes.2.1 0 = .ok (.iconst 0, 1) := by decide +kernel
theorem dX6_takes_1 : decode M_X6_takes.2.1 1 = .ok (.istore_n 3, 1) := by decide +kernel
theorem dX6_takes_2 : decode M_X6_takes.2.1 2 = .ok (.iload_n 3, 1) := by decide +kernel
theorem dX6_takes_3 : decode M_X6_takes.2.1 3 = .ok (.bipush 21, 2) := by decide +kernel
theorem dX6_takes_5 : decode M_X6_takes.2.1 5 = .ok (.if_icmp .ge 20, 3) := by decide +kernel
theorem dX6_takes_8 : decode M_X6_takes.2.1 8 = .ok (.aload_n 0, 1) := by decide +kernel
theorem dX6_takes_9 : decode M_X6_takes.2.1 9 = .ok (.getfield 7, 3) := by decide +kernel
theorem dX6_takes_12 : decode M_X6_takes.2.1 12 = .ok (.iload_n 3, 1) := by decide +kernel
theorem dX6_takes_13 : decode M_X6_takes.2.1 13 = .ok (.aload_n 1, 1) := by decide +kernel
theorem dX6_takes_14 : decode M_X6_takes.2.1 14 = .ok (.iload_n 2, 1) := by decide +kernel
theorem dX6_takes_15 : decode M_X6_takes.2.1 15 = .ok (.iload_n 3, 1) := by decide +kernel
theorem dX6_takes_16 : decode M_X6_takes.2.1 16 = .ok (.iadd, 1) := by decide +kernel
theorem dX6_takes_17 : decode M_X6_takes.2.1 17 = .ok (.iaload, 1) := by decide +kernel
theorem dX6_takes_18 : decode M_X6_takes.2.1 18 = .ok (.iastore, 1) := by decide +kernel
theorem dX6_takes_19 : decode M_X6_takes.2.1 19 = .ok (.iinc 3 1, 3) := by decide +kernel
theorem dX6_takes_22 : decode M_X6_takes.2.1 22 = .ok (.goto (-20), 3) := by decide +kernel
theorem dX6_takes_25 : decode M_X6_takes.2.1 25 = .ok (.return_, 1) := by decide +kernel
theorem dX6_keeps_0 : decode M_X6_keeps.2.1 0 = .ok (.aload_n 0, 1) := by decide +kernel
theorem dX6_keeps_1 : decode M_X6_keeps.2.1 1 = .ok (.getfield 214, 3) := by decide +kernel
theorem dX6_keeps_4 : decode M_X6_keeps.2.1 4 = .ok (.bipush 6, 2) := by decide +kernel
theorem dX6_keeps_6 : decode M_X6_keeps.2.1 6 = .ok (.if_icmp .ne 42, 3) := by decide +kernel
theorem dX6_keeps_9 : decode M_X6_keeps.2.1 9 = .ok (.iconst 0, 1) := by decide +kernel
theorem dX6_keeps_10 : decode M_X6_keeps.2.1 10 = .ok (.istore_n 1, 1) := by decide +kernel
theorem dX6_keeps_11 : decode M_X6_keeps.2.1 11 = .ok (.iload_n 1, 1) := by decide +kernel
theorem dX6_keeps_12 : decode M_X6_keeps.2.1 12 = .ok (.bipush 105, 2) := by decide +kernel
theorem dX6_keeps_14 : decode M_X6_keeps.2.1 14 = .ok (.if_icmp .ge 24, 3) := by decide +kernel
theorem dX6_keeps_17 : decode M_X6_keeps.2.1 17 = .ok (.aload_n 0, 1) := by decide +kernel
theorem dX6_keeps_18 : decode M_X6_keeps.2.1 18 = .ok (.getfield 13, 3) := by decide +kernel
theorem dX6_keeps_21 : decode M_X6_keeps.2.1 21 = .ok (.iload_n 1, 1) := by decide +kernel
theorem dX6_keeps_22 : decode M_X6_keeps.2.1 22 = .ok (.aload_n 0, 1) := by decide +kernel
theorem dX6_keeps_23 : decode M_X6_keeps.2.1 23 = .ok (.getfield 13, 3) := by decide +kernel
theorem dX6_keeps_26 : decode M_X6_keeps.2.1 26 = .ok (.iload_n 1, 1) := by decide +kernel
theorem dX6_keeps_27 : decode M_X6_keeps.2.1 27 = .ok (.bipush 21, 2) := by decide +kernel
theorem dX6_keeps_29 : decode M_X6_keeps.2.1 29 = .ok (.iadd, 1) := by decide +kernel
theorem dX6_keeps_30 : decode M_X6_keeps.2.1 30 = .ok (.iaload, 1) := by decide +kernel
theorem dX6_keeps_31 : decode M_X6_keeps.2.1 31 = .ok (.iastore, 1) := by decide +kernel
theorem dX6_keeps_32 : decode M_X6_keeps.2.1 32 = .ok (.iinc 1 1, 3) := by decide +kernel
theorem dX6_keeps_35 : decode M_X6_keeps.2.1 35 = .ok (.goto (-24), 3) := by decide +kernel
theorem dX6_keeps_38 : decode M_X6_keeps.2.1 38 = .ok (.aload_n 0, 1) := by decide +kernel
theorem dX6_keeps_39 : decode M_X6_keeps.2.1 39 = .ok (.dup, 1) := by decide +kernel
theorem dX6_keeps_40 : decode M_X6_keeps.2.1 40 = .ok (.getfield 214, 3) := by decide +kernel
theorem dX6_keeps_43 : decode M_X6_keeps.2.1 43 = .ok (.iconst 1, 1) := by decide +kernel
theorem dX6_keeps_44 : decode M_X6_keeps.2.1 44 = .ok (.isub, 1) := by decide +kernel
theorem dX6_keeps_45 : decode M_X6_keeps.2.1 45 = .ok (.putfield 214, 3) := by decide +kernel
theorem dX6_keeps_48 : decode M_X6_keeps.2.1 48 = .ok (.iconst 0, 1) := by decide +kernel
theorem dX6_keeps_49 : decode M_X6_keeps.2.1 49 = .ok (.istore_n 1, 1) := by decide +kernel
theorem dX6_keeps_50 : decode M_X6_keeps.2.1 50 = .ok (.iload_n 1, 1) := by decide +kernel
theorem dX6_keeps_51 : decode M_X6_keeps.2.1 51 = .ok (.bipush 21, 2) := by decide +kernel
theorem dX6_keeps_53 : decode M_X6_keeps.2.1 53 = .ok (.if_icmp .ge 29, 3) := by decide +kernel
theorem dX6_keeps_56 : decode M_X6_keeps.2.1 56 = .ok (.aload_n 0, 1) := by decide +kernel
theorem dX6_keeps_57 : decode M_X6_keeps.2.1 57 = .ok (.getfield 13, 3) := by decide +kernel
theorem dX6_keeps_60 : decode M_X6_keeps.2.1 60 = .ok (.bipush 21, 2) := by decide +kernel
theorem dX6_keeps_62 : decode M_X6_keeps.2.1 62 = .ok (.aload_n 0, 1) := by decide +kernel
theorem dX6_keeps_63 : decode M_X6_keeps.2.1 63 = .ok (.getfield 214, 3) := by decide +kernel
theorem dX6_keeps_66 : decode M_X6_keeps.2.1 66 = .ok (.imul, 1) := by decide +kernel
theorem dX6_keeps_67 : decode M_X6_keeps.2.1 67 = .ok (.iload_n 1, 1) := by decide +kernel
theorem dX6_keeps_68 : decode M_X6_keeps.2.1 68 = .ok (.iadd, 1) := by decide +kernel
theorem dX6_keeps_69 : decode M_X6_keeps.2.1 69 = .ok (.aload_n 0, 1) := by decide +kernel
theorem dX6_keeps_70 : decode M_X6_keeps.2.1 70 = .ok (.getfield 51, 3) := by decide +kernel
theorem dX6_keeps_73 : decode M_X6_keeps.2.1 73 = .ok (.iload_n 1, 1) := by decide +kernel
theorem dX6_keeps_74 : decode M_X6_keeps.2.1 74 = .ok (.iaload, 1) := by decide +kernel
theorem dX6_keeps_75 : decode M_X6_keeps.2.1 75 = .ok (.iastore, 1) := by decide +kernel
theorem dX6_keeps_76 : decode M_X6_keeps.2.1 76 = .ok (.iinc 1 1, 3) := by decide +kernel
theorem dX6_keeps_79 : decode M_X6_keeps.2.1 79 = .ok (.goto (-29), 3) := by decide +kernel
theorem dX6_keeps_82 : decode M_X6_keeps.2.1 82 = .ok (.aload_n 0, 1) := by decide +kernel
theorem dX6_keeps_83 : decode M_X6_keeps.2.1 83 = .ok (.dup, 1) := by decide +kernel
theorem dX6_keeps_84 : decode M_X6_keeps.2.1 84 = .ok (.getfield 214, 3) := by decide +kernel
theorem dX6_keeps_87 : decode M_X6_keeps.2.1 87 = .ok (.iconst 1, 1) := by decide +kernel
theorem dX6_keeps_88 : decode M_X6_keeps.2.1 88 = .ok (.iadd, 1) := by decide +kernel
theorem dX6_keeps_89 : decode M_X6_keeps.2.1 89 = .ok (.putfield 214, 3) := by decide +kernel
theorem dX6_keeps_92 : decode M_X6_keeps.2.1 92 = .ok (.return_, 1) := by decide +kernel
theorem dX6_tells_0 : decode M_X6_tells.2.1 0 = .ok (.aload_n 0, 1) := by decide +kernel
theorem dX6_tells_1 : decode M_X6_tells.2.1 1 = .ok (.aload_n 0, 1) := by decide +kernel
theorem dX6_tells_2 : decode M_X6_tells.2.1 2 = .ok (.getfield 51, 3) := by decide +kernel
theorem dX6_tells_5 : decode M_X6_tells.2.1 5 = .ok (.iconst 0, 1) := by decide +kernel
theorem dX6_tells_6 : decode M_X6_tells.2.1 6 = .ok (.invokevirtual 217, 3) := by decide +kernel
theorem dX6_tells_9 : decode M_X6_tells.2.1 9 = .ok (.aload_n 0, 1) := by decide +kernel
theorem dX6_tells_10 : decode M_X6_tells.2.1 10 = .ok (.invokevirtual 221, 3) := by decide +kernel
theorem dX6_tells_13 : decode M_X6_tells.2.1 13 = .ok (.ifCond .ne 20, 3) := by decide +kernel
theorem dX6_tells_16 : decode M_X6_tells.2.1 16 = .ok (.aload_n 0, 1) := by decide +kernel
theorem dX6_tells_17 : decode M_X6_tells.2.1 17 = .ok (.aload_n 0, 1) := by decide +kernel
theorem dX6_tells_18 : decode M_X6_tells.2.1 18 = .ok (.getfield 51, 3) := by decide +kernel
theorem dX6_tells_21 : decode M_X6_tells.2.1 21 = .ok (.iconst 0, 1) := by decide +kernel
theorem dX6_tells_22 : decode M_X6_tells.2.1 22 = .ok (.invokevirtual 224, 3) := by decide +kernel
theorem dX6_tells_25 : decode M_X6_tells.2.1 25 = .ok (.bipush (-10), 2) := by decide +kernel
theorem dX6_tells_27 : decode M_X6_tells.2.1 27 = .ok (.aload_n 0, 1) := by decide +kernel
theorem dX6_tells_28 : decode M_X6_tells.2.1 28 = .ok (.getfield 187, 3) := by decide +kernel
theorem dX6_tells_31 : decode M_X6_tells.2.1 31 = .ok (.isub, 1) := by decide +kernel
theorem dX6_tells_32 : decode M_X6_tells.2.1 32 = .ok (.ireturn, 1) := by decide +kernel
theorem dX6_tells_33 : decode M_X6_tells.2.1 33 = .ok (.aload_n 0, 1) := by decide +kernel
theorem dX6_tells_34 : decode M_X6_tells.2.1 34 = .ok (.invokevirtual 227, 3) := by decide +kernel
theorem dX6_tells_37 : decode M_X6_tells.2.1 37 = .ok (.aload_n 0, 1) := by decide +kernel
theorem dX6_tells_38 : decode M_X6_tells.2.1 38 = .ok (.iconst 0, 1) := by decide +kernel
theorem dX6_tells_39 : decode M_X6_tells.2.1 39 = .ok (.putfield 184, 3) := by decide +kernel
theorem dX6_tells_42 : decode M_X6_tells.2.1 42 = .ok (.aload_n 0, 1) := by decide +kernel
theorem dX6_tells_43 : decode M_X6_tells.2.1 43 = .ok (.getfield 205, 3) := by decide +kernel
theorem dX6_tells_46 : decode M_X6_tells.2.1 46 = .ok (.ireturn, 1) := by decide +kernel
theorem dX6_drops_0 : decode M_X6_drops.2.1 0 = .ok (.iload_n 1, 1) := by decide +kernel
theorem dX6_drops_1 : decode M_X6_drops.2.1 1 = .ok (.iload_n 2, 1) := by decide +kernel
theorem dX6_drops_2 : decode M_X6_drops.2.1 2 = .ok (.iload_n 3, 1) := by decide +kernel
theorem dX6_drops_3 : decode M_X6_drops.2.1 3 = .ok (.invokestatic 230, 3) := by decide +kernel
theorem dX6_drops_6 : decode M_X6_drops.2.1 6 = .ok (.ifCond .ne 5, 3) := by decide +kernel
theorem dX6_drops_9 : decode M_X6_drops.2.1 9 = .ok (.iconst (-1), 1) := by decide +kernel
theorem dX6_drops_10 : decode M_X6_drops.2.1 10 = .ok (.ireturn, 1) := by decide +kernel
theorem dX6_drops_11 : decode M_X6_drops.2.1 11 = .ok (.aload_n 0, 1) := by decide +kernel
theorem dX6_drops_12 : decode M_X6_drops.2.1 12 = .ok (.getfield 7, 3) := by decide +kernel
theorem dX6_drops_15 : decode M_X6_drops.2.1 15 = .ok (.iconst 0, 1) := by decide +kernel
theorem dX6_drops_16 : decode M_X6_drops.2.1 16 = .ok (.iaload, 1) := by decide +kernel
theorem dX6_drops_17 : decode M_X6_drops.2.1 17 = .ok (.iconst 4, 1) := by decide +kernel
theorem dX6_drops_18 : decode M_X6_drops.2.1 18 = .ok (.if_icmp .ne 6, 3) := by decide +kernel
theorem dX6_drops_21 : decode M_X6_drops.2.1 21 = .ok (.bipush (-3), 2) := by decide +kernel
theorem dX6_drops_23 : decode M_X6_drops.2.1 23 = .ok (.ireturn, 1) := by decide +kernel
theorem dX6_drops_24 : decode M_X6_drops.2.1 24 = .ok (.aload_n 0, 1) := by decide +kernel
theorem dX6_drops_25 : decode M_X6_drops.2.1 25 = .ok (.aload_n 0, 1) := by decide +kernel
theorem dX6_drops_26 : decode M_X6_drops.2.1 26 = .ok (.getfield 51, 3) := by decide +kernel
theorem dX6_drops_29 : decode M_X6_drops.2.1 29 = .ok (.iconst 0, 1) := by decide +kernel
theorem dX6_drops_30 : decode M_X6_drops.2.1 30 = .ok (.invokevirtual 217, 3) := by decide +kernel
theorem dX6_drops_33 : decode M_X6_drops.2.1 33 = .ok (.aload_n 0, 1) := by decide +kernel
theorem dX6_drops_34 : decode M_X6_drops.2.1 34 = .ok (.invokevirtual 227, 3) := by decide +kernel
theorem dX6_drops_37 : decode M_X6_drops.2.1 37 = .ok (.aload_n 0, 1) := by decide +kernel
theorem dX6_drops_38 : decode M_X6_drops.2.1 38 = .ok (.iload_n 1, 1) := by decide +kernel
theorem dX6_drops_39 : decode M_X6_drops.2.1 39 = .ok (.iload_n 2, 1) := by decide +kernel
theorem dX6_drops_40 : decode M_X6_drops.2.1 40 = .ok (.iload_n 3, 1) := by decide +kernel
theorem dX6_drops_41 : decode M_X6_drops.2.1 41 = .ok (.invokevirtual 202, 3) := by decide +kernel
theorem dX6_drops_44 : decode M_X6_drops.2.1 44 = .ok (.aload_n 0, 1) := by decide +kernel
theorem dX6_drops_45 : decode M_X6_drops.2.1 45 = .ok (.invokevirtual 161, 3) := by decide +kernel
theorem dX6_drops_48 : decode M_X6_drops.2.1 48 = .ok (.aload_n 0, 1) := by decide +kernel
theorem dX6_drops_49 : decode M_X6_drops.2.1 49 = .ok (.getfield 26, 3) := by decide +kernel
theorem dX6_drops_52 : decode M_X6_drops.2.1 52 = .ok (.aload_n 0, 1) := by decide +kernel
theorem dX6_drops_53 : decode M_X6_drops.2.1 53 = .ok (.getfield 7, 3) := by decide +kernel
theorem dX6_drops_56 : decode M_X6_drops.2.1 56 = .ok (.iconst 0, 1) := by decide +kernel
theorem dX6_drops_57 : decode M_X6_drops.2.1 57 = .ok (.iaload, 1) := by decide +kernel
theorem dX6_drops_58 : decode M_X6_drops.2.1 58 = .ok (.iconst 1, 1) := by decide +kernel
theorem dX6_drops_59 : decode M_X6_drops.2.1 59 = .ok (.isub, 1) := by decide +kernel
theorem dX6_drops_60 : decode M_X6_drops.2.1 60 = .ok (.iaload, 1) := by decide +kernel
theorem dX6_drops_61 : decode M_X6_drops.2.1 61 = .ok (.ireturn, 1) := by decide +kernel
theorem dX6_lifts_0 : decode M_X6_lifts.2.1 0 = .ok (.aload_n 0, 1) := by decide +kernel
theorem dX6_lifts_1 : decode M_X6_lifts.2.1 1 = .ok (.iload_n 1, 1) := by decide +kernel
theorem dX6_lifts_2 : decode M_X6_lifts.2.1 2 = .ok (.invokevirtual 233, 3) := by decide +kernel
theorem dX6_lifts_5 : decode M_X6_lifts.2.1 5 = .ok (.ifCond .ne 5, 3) := by decide +kernel
theorem dX6_lifts_8 : decode M_X6_lifts.2.1 8 = .ok (.iconst (-1), 1) := by decide +kernel
theorem dX6_lifts_9 : decode M_X6_lifts.2.1 9 = .ok (.ireturn, 1) := by decide +kernel
theorem dX6_lifts_10 : decode M_X6_lifts.2.1 10 = .ok (.aload_n 0, 1) := by decide +kernel
theorem dX6_lifts_11 : decode M_X6_lifts.2.1 11 = .ok (.invokevirtual 161, 3) := by decide +kernel
theorem dX6_lifts_14 : decode M_X6_lifts.2.1 14 = .ok (.aload_n 0, 1) := by decide +kernel
theorem dX6_lifts_15 : decode M_X6_lifts.2.1 15 = .ok (.iload_n 1, 1) := by decide +kernel
theorem dX6_lifts_16 : decode M_X6_lifts.2.1 16 = .ok (.invokevirtual 236, 3) := by decide +kernel
theorem dX6_lifts_19 : decode M_X6_lifts.2.1 19 = .ok (.ifCond .eq 6, 3) := by decide +kernel
theorem dX6_lifts_22 : decode M_X6_lifts.2.1 22 = .ok (.bipush (-2), 2) := by decide +kernel
theorem dX6_lifts_24 : decode M_X6_lifts.2.1 24 = .ok (.ireturn, 1) := by decide +kernel
theorem dX6_lifts_25 : decode M_X6_lifts.2.1 25 = .ok (.aload_n 0, 1) := by decide +kernel
theorem dX6_lifts_26 : decode M_X6_lifts.2.1 26 = .ok (.aload_n 0, 1) := by decide +kernel
theorem dX6_lifts_27 : decode M_X6_lifts.2.1 27 = .ok (.getfield 51, 3) := by decide +kernel
theorem dX6_lifts_30 : decode M_X6_lifts.2.1 30 = .ok (.iconst 0, 1) := by decide +kernel
theorem dX6_lifts_31 : decode M_X6_lifts.2.1 31 = .ok (.invokevirtual 217, 3) := by decide +kernel
theorem dX6_lifts_34 : decode M_X6_lifts.2.1 34 = .ok (.aload_n 0, 1) := by decide +kernel
theorem dX6_lifts_35 : decode M_X6_lifts.2.1 35 = .ok (.invokevirtual 227, 3) := by decide +kernel
theorem dX6_lifts_38 : decode M_X6_lifts.2.1 38 = .ok (.aload_n 0, 1) := by decide +kernel
theorem dX6_lifts_39 : decode M_X6_lifts.2.1 39 = .ok (.iload_n 1, 1) := by decide +kernel
theorem dX6_lifts_40 : decode M_X6_lifts.2.1 40 = .ok (.invokevirtual 239, 3) := by decide +kernel
theorem dX6_lifts_43 : decode M_X6_lifts.2.1 43 = .ok (.aload_n 0, 1) := by decide +kernel
theorem dX6_lifts_44 : decode M_X6_lifts.2.1 44 = .ok (.getfield 7, 3) := by decide +kernel
theorem dX6_lifts_47 : decode M_X6_lifts.2.1 47 = .ok (.iconst 0, 1) := by decide +kernel
theorem dX6_lifts_48 : decode M_X6_lifts.2.1 48 = .ok (.iaload, 1) := by decide +kernel
theorem dX6_lifts_49 : decode M_X6_lifts.2.1 49 = .ok (.ireturn, 1) := by decide +kernel
theorem dX6_weighs_0 : decode M_X6_weighs.2.1 0 = .ok (.aload_n 0, 1) := by decide +kernel
theorem dX6_weighs_1 : decode M_X6_weighs.2.1 1 = .ok (.iload_n 1, 1) := by decide +kernel
theorem dX6_weighs_2 : decode M_X6_weighs.2.1 2 = .ok (.invokevirtual 233, 3) := by decide +kernel
theorem dX6_weighs_5 : decode M_X6_weighs.2.1 5 = .ok (.ifCond .eq 13, 3) := by decide +kernel
theorem dX6_weighs_8 : decode M_X6_weighs.2.1 8 = .ok (.iload_n 2, 1) := by decide +kernel
theorem dX6_weighs_9 : decode M_X6_weighs.2.1 9 = .ok (.iconst 1, 1) := by decide +kernel
theorem dX6_weighs_10 : decode M_X6_weighs.2.1 10 = .ok (.bipush 9, 2) := by decide +kernel
theorem dX6_weighs_12 : decode M_X6_weighs.2.1 12 = .ok (.invokestatic 54, 3) := by decide +kernel
theorem dX6_weighs_15 : decode M_X6_weighs.2.1 15 = .ok (.ifCond .ne 5, 3) := by decide +kernel
theorem dX6_weighs_18 : decode M_X6_weighs.2.1 18 = .ok (.iconst (-1), 1) := by decide +kernel
theorem dX6_weighs_19 : decode M_X6_weighs.2.1 19 = .ok (.ireturn, 1) := by decide +kernel
theorem dX6_weighs_20 : decode M_X6_weighs.2.1 20 = .ok (.aload_n 0, 1) := by decide +kernel
theorem dX6_weighs_21 : decode M_X6_weighs.2.1 21 = .ok (.iload_n 1, 1) := by decide +kernel
theorem dX6_weighs_22 : decode M_X6_weighs.2.1 22 = .ok (.iconst 3, 1) := by decide +kernel
theorem dX6_weighs_23 : decode M_X6_weighs.2.1 23 = .ok (.invokevirtual 58, 3) := by decide +kernel
theorem dX6_weighs_26 : decode M_X6_weighs.2.1 26 = .ok (.istore_n 3, 1) := by decide +kernel
theorem dX6_weighs_27 : decode M_X6_weighs.2.1 27 = .ok (.iload_n 3, 1) := by decide +kernel
theorem dX6_weighs_28 : decode M_X6_weighs.2.1 28 = .ok (.iload_n 2, 1) := by decide +kernel
theorem dX6_weighs_29 : decode M_X6_weighs.2.1 29 = .ok (.if_icmp .ne 6, 3) := by decide +kernel
theorem dX6_weighs_32 : decode M_X6_weighs.2.1 32 = .ok (.bipush (-2), 2) := by decide +kernel
theorem dX6_weighs_34 : decode M_X6_weighs.2.1 34 = .ok (.ireturn, 1) := by decide +kernel
theorem dX6_weighs_35 : decode M_X6_weighs.2.1 35 = .ok (.aload_n 0, 1) := by decide +kernel
theorem dX6_weighs_36 : decode M_X6_weighs.2.1 36 = .ok (.aload_n 0, 1) := by decide +kernel
theorem dX6_weighs_37 : decode M_X6_weighs.2.1 37 = .ok (.getfield 51, 3) := by decide +kernel
theorem dX6_weighs_40 : decode M_X6_weighs.2.1 40 = .ok (.iconst 0, 1) := by decide +kernel
theorem dX6_weighs_41 : decode M_X6_weighs.2.1 41 = .ok (.invokevirtual 217, 3) := by decide +kernel
theorem dX6_weighs_44 : decode M_X6_weighs.2.1 44 = .ok (.aload_n 0, 1) := by decide +kernel
theorem dX6_weighs_45 : decode M_X6_weighs.2.1 45 = .ok (.invokevirtual 227, 3) := by decide +kernel
theorem dX6_weighs_48 : decode M_X6_weighs.2.1 48 = .ok (.aload_n 0, 1) := by decide +kernel
theorem dX6_weighs_49 : decode M_X6_weighs.2.1 49 = .ok (.getfield 7, 3) := by decide +kernel
theorem dX6_weighs_52 : decode M_X6_weighs.2.1 52 = .ok (.iconst 5, 1) := by decide +kernel
theorem dX6_weighs_53 : decode M_X6_weighs.2.1 53 = .ok (.iload_n 1, 1) := by decide +kernel
theorem dX6_weighs_54 : decode M_X6_weighs.2.1 54 = .ok (.imul, 1) := by decide +kernel
theorem dX6_weighs_55 : decode M_X6_weighs.2.1 55 = .ok (.iconst 3, 1) := by decide +kernel
theorem dX6_weighs_56 : decode M_X6_weighs.2.1 56 = .ok (.iadd, 1) := by decide +kernel
theorem dX6_weighs_57 : decode M_X6_weighs.2.1 57 = .ok (.iload_n 2, 1) := by decide +kernel
theorem dX6_weighs_58 : decode M_X6_weighs.2.1 58 = .ok (.iastore, 1) := by decide +kernel
theorem dX6_weighs_59 : decode M_X6_weighs.2.1 59 = .ok (.iload_n 3, 1) := by decide +kernel
theorem dX6_weighs_60 : decode M_X6_weighs.2.1 60 = .ok (.ireturn, 1) := by decide +kernel
theorem dX6_isSpot_0 : decode M_X6_isSpot.2.1 0 = .ok (.aload_n 0, 1) := by decide +kernel
theorem dX6_isSpot_1 : decode M_X6_isSpot.2.1 1 = .ok (.iload_n 1, 1) := by decide +kernel
theorem dX6_isSpot_2 : decode M_X6_isSpot.2.1 2 = .ok (.invokevirtual 233, 3) := by decide +kernel
theorem dX6_isSpot_5 : decode M_X6_isSpot.2.1 5 = .ok (.ifCond .eq 23, 3) := by decide +kernel
theorem dX6_isSpot_8 : decode M_X6_isSpot.2.1 8 = .ok (.iload_n 2, 1) := by decide +kernel
theorem dX6_isSpot_9 : decode M_X6_isSpot.2.1 9 = .ok (.iconst 0, 1) := by decide +kernel
theorem dX6_isSpot_10 : decode M_X6_isSpot.2.1 10 = .ok (.iconst 2, 1) := by decide +kernel
theorem dX6_isSpot_11 : decode M_X6_isSpot.2.1 11 = .ok (.aload_n 0, 1) := by decide +kernel
theorem dX6_isSpot_12 : decode M_X6_isSpot.2.1 12 = .ok (.iload_n 1, 1) := by decide +kernel
theorem dX6_isSpot_13 : decode M_X6_isSpot.2.1 13 = .ok (.iconst 2, 1) := by decide +kernel
theorem dX6_isSpot_14 : decode M_X6_isSpot.2.1 14 = .ok (.invokevirtual 58, 3) := by decide +kernel
theorem dX6_isSpot_17 : decode M_X6_isSpot.2.1 17 = .ok (.imul, 1) := by decide +kernel
theorem dX6_isSpot_18 : decode M_X6_isSpot.2.1 18 = .ok (.invokestatic 54, 3) := by decide +kernel
theorem dX6_isSpot_21 : decode M_X6_isSpot.2.1 21 = .ok (.ifCond .eq 7, 3) := by decide +kernel
theorem dX6_isSpot_24 : decode M_X6_isSpot.2.1 24 = .ok (.iconst 1, 1) := by decide +kernel
theorem dX6_isSpot_25 : decode M_X6_isSpot.2.1 25 = .ok (.goto 4, 3) := by decide +kernel
theorem dX6_isSpot_28 : decode M_X6_isSpot.2.1 28 = .ok (.iconst 0, 1) := by decide +kernel
theorem dX6_isSpot_29 : decode M_X6_isSpot.2.1 29 = .ok (.ireturn, 1) := by decide +kernel
theorem dX6_loads_0 : decode M_X6_loads.2.1 0 = .ok (.aload_n 0, 1) := by decide +kernel
theorem dX6_loads_1 : decode M_X6_loads.2.1 1 = .ok (.iload_n 1, 1) := by decide +kernel
theorem dX6_loads_2 : decode M_X6_loads.2.1 2 = .ok (.iload_n 2, 1) := by decide +kernel
theorem dX6_loads_3 : decode M_X6_loads.2.1 3 = .ok (.invokevirtual 242, 3) := by decide +kernel
theorem dX6_loads_6 : decode M_X6_loads.2.1 6 = .ok (.ifCond .eq 13, 3) := by decide +kernel
theorem dX6_loads_9 : decode M_X6_loads.2.1 9 = .ok (.iload_n 3, 1) := by decide +kernel
theorem dX6_loads_10 : decode M_X6_loads.2.1 10 = .ok (.iconst 0, 1) := by decide +kernel
theorem dX6_loads_11 : decode M_X6_loads.2.1 11 = .ok (.bipush 20, 2) := by decide +kernel
theorem dX6_loads_13 : decode M_X6_loads.2.1 13 = .ok (.invokestatic 54, 3) := by decide +kernel
theorem dX6_loads_16 : decode M_X6_loads.2.1 16 = .ok (.ifCond .ne 5, 3) := by decide +kernel
theorem dX6_loads_19 : decode M_X6_loads.2.1 19 = .ok (.iconst (-1), 1) := by decide +kernel
theorem dX6_loads_20 : decode M_X6_loads.2.1 20 = .ok (.ireturn, 1) := by decide +kernel
theorem dX6_loads_21 : decode M_X6_loads.2.1 21 = .ok (.aload_n 0, 1) := by decide +kernel
theorem dX6_loads_22 : decode M_X6_loads.2.1 22 = .ok (.iload_n 1, 1) := by decide +kernel
theorem dX6_loads_23 : decode M_X6_loads.2.1 23 = .ok (.iconst 4, 1) := by decide +kernel
theorem dX6_loads_24 : decode M_X6_loads.2.1 24 = .ok (.invokevirtual 58, 3) := by decide +kernel
theorem dX6_loads_27 : decode M_X6_loads.2.1 27 = .ok (.istore 4, 2) := by decide +kernel
theorem dX6_loads_29 : decode M_X6_loads.2.1 29 = .ok (.iload 4, 2) := by decide +kernel
theorem dX6_loads_31 : decode M_X6_loads.2.1 31 = .ok (.iload_n 3, 1) := by decide +kernel
theorem dX6_loads_32 : decode M_X6_loads.2.1 32 = .ok (.if_icmp .ne 16, 3) := by decide +kernel
theorem dX6_loads_35 : decode M_X6_loads.2.1 35 = .ok (.aload_n 0, 1) := by decide +kernel
theorem dX6_loads_36 : decode M_X6_loads.2.1 36 = .ok (.iload_n 1, 1) := by decide +kernel
theorem dX6_loads_37 : decode M_X6_loads.2.1 37 = .ok (.iconst 5, 1) := by decide +kernel
theorem dX6_loads_38 : decode M_X6_loads.2.1 38 = .ok (.invokevirtual 58, 3) := by decide +kernel
theorem dX6_loads_41 : decode M_X6_loads.2.1 41 = .ok (.iload_n 2, 1) := by decide +kernel
theorem dX6_loads_42 : decode M_X6_loads.2.1 42 = .ok (.if_icmp .ne 6, 3) := by decide +kernel
theorem dX6_loads_45 : decode M_X6_loads.2.1 45 = .ok (.bipush (-2), 2) := by decide +kernel
theorem dX6_loads_47 : decode M_X6_loads.2.1 47 = .ok (.ireturn, 1) := by decide +kernel
theorem dX6_loads_48 : decode M_X6_loads.2.1 48 = .ok (.aload_n 0, 1) := by decide +kernel
theorem dX6_loads_49 : decode M_X6_loads.2.1 49 = .ok (.aload_n 0, 1) := by decide +kernel
theorem dX6_loads_50 : decode M_X6_loads.2.1 50 = .ok (.getfield 51, 3) := by decide +kernel
theorem dX6_loads_53 : decode M_X6_loads.2.1 53 = .ok (.iconst 0, 1) := by decide +kernel
theorem dX6_loads_54 : decode M_X6_loads.2.1 54 = .ok (.invokevirtual 217, 3) := by decide +kernel
theorem dX6_loads_57 : decode M_X6_loads.2.1 57 = .ok (.aload_n 0, 1) := by decide +kernel
theorem dX6_loads_58 : decode M_X6_loads.2.1 58 = .ok (.invokevirtual 227, 3) := by decide +kernel
theorem dX6_loads_61 : decode M_X6_loads.2.1 61 = .ok (.aload_n 0, 1) := by decide +kernel
theorem dX6_loads_62 : decode M_X6_loads.2.1 62 = .ok (.getfield 7, 3) := by decide +kernel
theorem dX6_loads_65 : decode M_X6_loads.2.1 65 = .ok (.iconst 5, 1) := by decide +kernel
theorem dX6_loads_66 : decode M_X6_loads.2.1 66 = .ok (.iload_n 1, 1) := by decide +kernel
theorem dX6_loads_67 : decode M_X6_loads.2.1 67 = .ok (.imul, 1) := by decide +kernel
theorem dX6_loads_68 : decode M_X6_loads.2.1 68 = .ok (.iconst 4, 1) := by decide +kernel
theorem dX6_loads_69 : decode M_X6_loads.2.1 69 = .ok (.iadd, 1) := by decide +kernel
theorem dX6_loads_70 : decode M_X6_loads.2.1 70 = .ok (.iload_n 3, 1) := by decide +kernel
theorem dX6_loads_71 : decode M_X6_loads.2.1 71 = .ok (.iastore, 1) := by decide +kernel
theorem dX6_loads_72 : decode M_X6_loads.2.1 72 = .ok (.aload_n 0, 1) := by decide +kernel
theorem dX6_loads_73 : decode M_X6_loads.2.1 73 = .ok (.getfield 7, 3) := by decide +kernel
theorem dX6_loads_76 : decode M_X6_loads.2.1 76 = .ok (.iconst 5, 1) := by decide +kernel
theorem dX6_loads_77 : decode M_X6_loads.2.1 77 = .ok (.iload_n 1, 1) := by decide +kernel
theorem dX6_loads_78 : decode M_X6_loads.2.1 78 = .ok (.imul, 1) := by decide +kernel
theorem dX6_loads_79 : decode M_X6_loads.2.1 79 = .ok (.iconst 5, 1) := by decide +kernel
theorem dX6_loads_80 : decode M_X6_loads.2.1 80 = .ok (.iadd, 1) := by decide +kernel
theorem dX6_loads_81 : decode M_X6_loads.2.1 81 = .ok (.iload_n 2, 1) := by decide +kernel
theorem dX6_loads_82 : decode M_X6_loads.2.1 82 = .ok (.iastore, 1) := by decide +kernel
theorem dX6_loads_83 : decode M_X6_loads.2.1 83 = .ok (.iload 4, 2) := by decide +kernel
theorem dX6_loads_85 : decode M_X6_loads.2.1 85 = .ok (.ireturn, 1) := by decide +kernel
theorem dX6_undo_0 : decode M_X6_undo.2.1 0 = .ok (.aload_n 0, 1) := by decide +kernel
theorem dX6_undo_1 : decode M_X6_undo.2.1 1 = .ok (.getfield 214, 3) := by decide +kernel
theorem dX6_undo_4 : decode M_X6_undo.2.1 4 = .ok (.ifCond .ne 6, 3) := by decide +kernel
theorem dX6_undo_7 : decode M_X6_undo.2.1 7 = .ok (.bipush (-2), 2) := by decide +kernel
theorem dX6_undo_9 : decode M_X6_undo.2.1 9 = .ok (.ireturn, 1) := by decide +kernel
theorem dX6_undo_10 : decode M_X6_undo.2.1 10 = .ok (.aload_n 0, 1) := by decide +kernel
theorem dX6_undo_11 : decode M_X6_undo.2.1 11 = .ok (.dup, 1) := by decide +kernel
theorem dX6_undo_12 : decode M_X6_undo.2.1 12 = .ok (.getfield 214, 3) := by decide +kernel
theorem dX6_undo_15 : decode M_X6_undo.2.1 15 = .ok (.iconst 1, 1) := by decide +kernel
theorem dX6_undo_16 : decode M_X6_undo.2.1 16 = .ok (.isub, 1) := by decide +kernel
theorem dX6_undo_17 : decode M_X6_undo.2.1 17 = .ok (.putfield 214, 3) := by decide +kernel
theorem dX6_undo_20 : decode M_X6_undo.2.1 20 = .ok (.aload_n 0, 1) := by decide +kernel
theorem dX6_undo_21 : decode M_X6_undo.2.1 21 = .ok (.aload_n 0, 1) := by decide +kernel
theorem dX6_undo_22 : decode M_X6_undo.2.1 22 = .ok (.getfield 13, 3) := by decide +kernel
theorem dX6_undo_25 : decode M_X6_undo.2.1 25 = .ok (.bipush 21, 2) := by decide +kernel
theorem dX6_undo_27 : decode M_X6_undo.2.1 27 = .ok (.aload_n 0, 1) := by decide +kernel
theorem dX6_undo_28 : decode M_X6_undo.2.1 28 = .ok (.getfield 214, 3) := by decide +kernel
theorem dX6_undo_31 : decode M_X6_undo.2.1 31 = .ok (.imul, 1) := by decide +kernel
theorem dX6_undo_32 : decode M_X6_undo.2.1 32 = .ok (.invokevirtual 224, 3) := by decide +kernel
theorem dX6_undo_35 : decode M_X6_undo.2.1 35 = .ok (.aload_n 0, 1) := by decide +kernel
theorem dX6_undo_36 : decode M_X6_undo.2.1 36 = .ok (.getfield 214, 3) := by decide +kernel
theorem dX6_undo_39 : decode M_X6_undo.2.1 39 = .ok (.ireturn, 1) := by decide +kernel
theorem dX6_tellBlock_0 : decode M_X6_tellBlock.2.1 0 = .ok (.iload_n 2, 1) := by decide +kernel
theorem dX6_tellBlock_1 : decode M_X6_tellBlock.2.1 1 = .ok (.iconst 5, 1) := by decide +kernel
theorem dX6_tellBlock_2 : decode M_X6_tellBlock.2.1 2 = .ok (.if_icmp .ge 12, 3) := by decide +kernel
theorem dX6_tellBlock_5 : decode M_X6_tellBlock.2.1 5 = .ok (.aload_n 0, 1) := by decide +kernel
theorem dX6_tellBlock_6 : decode M_X6_tellBlock.2.1 6 = .ok (.iload_n 1, 1) := by decide +kernel
theorem dX6_tellBlock_7 : decode M_X6_tellBlock.2.1 7 = .ok (.iload_n 2, 1) := by decide +kernel
theorem dX6_tellBlock_8 : decode M_X6_tellBlock.2.1 8 = .ok (.iconst 1, 1) := by decide +kernel
theorem dX6_tellBlock_9 : decode M_X6_tellBlock.2.1 9 = .ok (.iadd, 1) := by decide +kernel
theorem dX6_tellBlock_10 : decode M_X6_tellBlock.2.1 10 = .ok (.invokevirtual 58, 3) := by decide +kernel
theorem dX6_tellBlock_13 : decode M_X6_tellBlock.2.1 13 = .ok (.ireturn, 1) := by decide +kernel
theorem dX6_tellBlock_14 : decode M_X6_tellBlock.2.1 14 = .ok (.aload_n 0, 1) := by decide +kernel
theorem dX6_tellBlock_15 : decode M_X6_tellBlock.2.1 15 = .ok (.invokevirtual 161, 3) := by decide +kernel
theorem dX6_tellBlock_18 : decode M_X6_tellBlock.2.1 18 = .ok (.iload_n 2, 1) := by decide +kernel
theorem dX6_tellBlock_19 : decode M_X6_tellBlock.2.1 19 = .ok (.iconst 5, 1) := by decide +kernel
theorem dX6_tellBlock_20 : decode M_X6_tellBlock.2.1 20 = .ok (.if_icmp .ne 12, 3) := by decide +kernel
theorem dX6_tellBlock_23 : decode M_X6_tellBlock.2.1 23 = .ok (.aload_n 0, 1) := by decide +kernel
theorem dX6_tellBlock_24 : decode M_X6_tellBlock.2.1 24 = .ok (.getfield 26, 3) := by decide +kernel
theorem dX6_tellBlock_27 : decode M_X6_tellBlock.2.1 27 = .ok (.iload_n 1, 1) := by decide +kernel
theorem dX6_tellBlock_28 : decode M_X6_tellBlock.2.1 28 = .ok (.iaload, 1) := by decide +kernel
theorem dX6_tellBlock_29 : decode M_X6_tellBlock.2.1 29 = .ok (.goto 23, 3) := by decide +kernel
theorem dX6_tellBlock_32 : decode M_X6_tellBlock.2.1 32 = .ok (.iload_n 2, 1) := by decide +kernel
theorem dX6_tellBlock_33 : decode M_X6_tellBlock.2.1 33 = .ok (.bipush 6, 2) := by decide +kernel
theorem dX6_tellBlock_35 : decode M_X6_tellBlock.2.1 35 = .ok (.if_icmp .ne 12, 3) := by decide +kernel
theorem dX6_tellBlock_38 : decode M_X6_tellBlock.2.1 38 = .ok (.aload_n 0, 1) := by decide +kernel
theorem dX6_tellBlock_39 : decode M_X6_tellBlock.2.1 39 = .ok (.getfield 29, 3) := by decide +kernel
theorem dX6_tellBlock_42 : decode M_X6_tellBlock.2.1 42 = .ok (.iload_n 1, 1) := by decide +kernel
theorem dX6_tellBlock_43 : decode M_X6_tellBlock.2.1 43 = .ok (.iaload, 1) := by decide +kernel
theorem dX6_tellBlock_44 : decode M_X6_tellBlock.2.1 44 = .ok (.goto 8, 3) := by decide +kernel
theorem dX6_tellBlock_47 : decode M_X6_tellBlock.2.1 47 = .ok (.aload_n 0, 1) := by decide +kernel
theorem dX6_tellBlock_48 : decode M_X6_tellBlock.2.1 48 = .ok (.iload_n 1, 1) := by decide +kernel
theorem dX6_tellBlock_49 : decode M_X6_tellBlock.2.1 49 = .ok (.invokevirtual 236, 3) := by decide +kernel
theorem dX6_tellBlock_52 : decode M_X6_tellBlock.2.1 52 = .ok (.ireturn, 1) := by decide +kernel
theorem dX6_block_0 : decode M_X6_block.2.1 0 = .ok (.aload_n 0, 1) := by decide +kernel
theorem dX6_block_1 : decode M_X6_block.2.1 1 = .ok (.iload_n 1, 1) := by decide +kernel
theorem dX6_block_2 : decode M_X6_block.2.1 2 = .ok (.invokevirtual 233, 3) := by decide +kernel
theorem dX6_block_5 : decode M_X6_block.2.1 5 = .ok (.ifCond .eq 22, 3) := by decide +kernel
theorem dX6_block_8 : decode M_X6_block.2.1 8 = .ok (.iload_n 2, 1) := by decide +kernel
theorem dX6_block_9 : decode M_X6_block.2.1 9 = .ok (.iconst 0, 1) := by decide +kernel
theorem dX6_block_10 : decode M_X6_block.2.1 10 = .ok (.bipush 7, 2) := by decide +kernel
theorem dX6_block_12 : decode M_X6_block.2.1 12 = .ok (.invokestatic 54, 3) := by decide +kernel
theorem dX6_block_15 : decode M_X6_block.2.1 15 = .ok (.ifCond .eq 12, 3) := by decide +kernel
theorem dX6_block_18 : decode M_X6_block.2.1 18 = .ok (.aload_n 0, 1) := by decide +kernel
theorem dX6_block_19 : decode M_X6_block.2.1 19 = .ok (.iload_n 1, 1) := by decide +kernel
theorem dX6_block_20 : decode M_X6_block.2.1 20 = .ok (.iload_n 2, 1) := by decide +kernel
theorem dX6_block_21 : decode M_X6_block.2.1 21 = .ok (.invokevirtual 245, 3) := by decide +kernel
theorem dX6_block_24 : decode M_X6_block.2.1 24 = .ok (.goto 4, 3) := by decide +kernel
theorem dX6_block_27 : decode M_X6_block.2.1 27 = .ok (.iconst (-1), 1) := by decide +kernel
theorem dX6_block_28 : decode M_X6_block.2.1 28 = .ok (.ireturn, 1) := by decide +kernel
theorem dX6_isContact_0 : decode M_X6_isContact.2.1 0 = .ok (.aload_n 0, 1) := by decide +kernel
theorem dX6_isContact_1 : decode M_X6_isContact.2.1 1 = .ok (.invokevirtual 161, 3) := by decide +kernel
theorem dX6_isContact_4 : decode M_X6_isContact.2.1 4 = .ok (.iload_n 1, 1) := by decide +kernel
theorem dX6_isContact_5 : decode M_X6_isContact.2.1 5 = .ok (.iconst 0, 1) := by decide +kernel
theorem dX6_isContact_6 : decode M_X6_isContact.2.1 6 = .ok (.aload_n 0, 1) := by decide +kernel
theorem dX6_isContact_7 : decode M_X6_isContact.2.1 7 = .ok (.getfield 72, 3) := by decide +kernel
theorem dX6_isContact_10 : decode M_X6_isContact.2.1 10 = .ok (.iconst 1, 1) := by decide +kernel
theorem dX6_isContact_11 : decode M_X6_isContact.2.1 11 = .ok (.isub, 1) := by decide +kernel
theorem dX6_isContact_12 : decode M_X6_isContact.2.1 12 = .ok (.invokestatic 54, 3) := by decide +kernel
theorem dX6_isContact_15 : decode M_X6_isContact.2.1 15 = .ok (.ireturn, 1) := by decide +kernel
theorem dX6_contact_0 : decode M_X6_contact.2.1 0 = .ok (.aload_n 0, 1) := by decide +kernel
theorem dX6_contact_1 : decode M_X6_contact.2.1 1 = .ok (.iload_n 1, 1) := by decide +kernel
end
section
theorem dX6_contact_2 : decode M_X6_contact.2.1 2 = .ok (.invokevirtual 248, 3) := by decide +kernel
theorem dX6_contact_5 : decode M_X6_contact.2.1 5 = .ok (.ifCond .eq 12, 3) := by decide +kernel
theorem dX6_contact_8 : decode M_X6_contact.2.1 8 = .ok (.iload_n 2, 1) := by decide +kernel
theorem dX6_contact_9 : decode M_X6_contact.2.1 9 = .ok (.iconst 0, 1) := by decide +kernel
theorem dX6_contact_10 : decode M_X6_contact.2.1 10 = .ok (.iconst 2, 1) := by decide +kernel
theorem dX6_contact_11 : decode M_X6_contact.2.1 11 = .ok (.invokestatic 54, 3) := by decide +kernel
theorem dX6_contact_14 : decode M_X6_contact.2.1 14 = .ok (.ifCond .ne 5, 3) := by decide +kernel
theorem dX6_contact_17 : decode M_X6_contact.2.1 17 = .ok (.iconst (-1), 1) := by decide +kernel
theorem dX6_contact_18 : decode M_X6_contact.2.1 18 = .ok (.ireturn, 1) := by decide +kernel
theorem dX6_contact_19 : decode M_X6_contact.2.1 19 = .ok (.iload_n 2, 1) := by decide +kernel
theorem dX6_contact_20 : decode M_X6_contact.2.1 20 = .ok (.ifCond .ne 12, 3) := by decide +kernel
theorem dX6_contact_23 : decode M_X6_contact.2.1 23 = .ok (.aload_n 0, 1) := by decide +kernel
theorem dX6_contact_24 : decode M_X6_contact.2.1 24 = .ok (.getfield 32, 3) := by decide +kernel
theorem dX6_contact_27 : decode M_X6_contact.2.1 27 = .ok (.iload_n 1, 1) := by decide +kernel
theorem dX6_contact_28 : decode M_X6_contact.2.1 28 = .ok (.iaload, 1) := by decide +kernel
theorem dX6_contact_29 : decode M_X6_contact.2.1 29 = .ok (.goto 23, 3) := by decide +kernel
theorem dX6_contact_32 : decode M_X6_contact.2.1 32 = .ok (.iload_n 2, 1) := by decide +kernel
theorem dX6_contact_33 : decode M_X6_contact.2.1 33 = .ok (.iconst 1, 1) := by decide +kernel
theorem dX6_contact_34 : decode M_X6_contact.2.1 34 = .ok (.if_icmp .ne 12, 3) := by decide +kernel
theorem dX6_contact_37 : decode M_X6_contact.2.1 37 = .ok (.aload_n 0, 1) := by decide +kernel
theorem dX6_contact_38 : decode M_X6_contact.2.1 38 = .ok (.getfield 35, 3) := by decide +kernel
theorem dX6_contact_41 : decode M_X6_contact.2.1 41 = .ok (.iload_n 1, 1) := by decide +kernel
theorem dX6_contact_42 : decode M_X6_contact.2.1 42 = .ok (.iaload, 1) := by decide +kernel
theorem dX6_contact_43 : decode M_X6_contact.2.1 43 = .ok (.goto 9, 3) := by decide +kernel
theorem dX6_contact_46 : decode M_X6_contact.2.1 46 = .ok (.aload_n 0, 1) := by decide +kernel
theorem dX6_contact_47 : decode M_X6_contact.2.1 47 = .ok (.getfield 38, 3) := by decide +kernel
theorem dX6_contact_50 : decode M_X6_contact.2.1 50 = .ok (.iload_n 1, 1) := by decide +kernel
theorem dX6_contact_51 : decode M_X6_contact.2.1 51 = .ok (.iaload, 1) := by decide +kernel
theorem dX6_contact_52 : decode M_X6_contact.2.1 52 = .ok (.ireturn, 1) := by decide +kernel
theorem dX6_rests_0 : decode M_X6_rests.2.1 0 = .ok (.aload_n 0, 1) := by decide +kernel
theorem dX6_rests_1 : decode M_X6_rests.2.1 1 = .ok (.invokevirtual 251, 3) := by decide +kernel
theorem dX6_rests_4 : decode M_X6_rests.2.1 4 = .ok (.ifCond .eq 7, 3) := by decide +kernel
theorem dX6_rests_7 : decode M_X6_rests.2.1 7 = .ok (.iconst 1, 1) := by decide +kernel
theorem dX6_rests_8 : decode M_X6_rests.2.1 8 = .ok (.goto 4, 3) := by decide +kernel
theorem dX6_rests_11 : decode M_X6_rests.2.1 11 = .ok (.iconst 0, 1) := by decide +kernel
theorem dX6_rests_12 : decode M_X6_rests.2.1 12 = .ok (.ireturn, 1) := by decide +kernel
theorem dX6_bounds_0 : decode M_X6_bounds.2.1 0 = .ok (.aload_n 0, 1) := by decide +kernel
theorem dX6_bounds_1 : decode M_X6_bounds.2.1 1 = .ok (.iload_n 1, 1) := by decide +kernel
theorem dX6_bounds_2 : decode M_X6_bounds.2.1 2 = .ok (.invokevirtual 248, 3) := by decide +kernel
theorem dX6_bounds_5 : decode M_X6_bounds.2.1 5 = .ok (.ifCond .eq 12, 3) := by decide +kernel
theorem dX6_bounds_8 : decode M_X6_bounds.2.1 8 = .ok (.iload_n 2, 1) := by decide +kernel
theorem dX6_bounds_9 : decode M_X6_bounds.2.1 9 = .ok (.iconst 0, 1) := by decide +kernel
theorem dX6_bounds_10 : decode M_X6_bounds.2.1 10 = .ok (.iconst 3, 1) := by decide +kernel
theorem dX6_bounds_11 : decode M_X6_bounds.2.1 11 = .ok (.invokestatic 54, 3) := by decide +kernel
theorem dX6_bounds_14 : decode M_X6_bounds.2.1 14 = .ok (.ifCond .ne 7, 3) := by decide +kernel
theorem dX6_bounds_17 : decode M_X6_bounds.2.1 17 = .ok (.ldc2_w 95, 3) := by decide +kernel
theorem dX6_bounds_20 : decode M_X6_bounds.2.1 20 = .ok (.lreturn, 1) := by decide +kernel
theorem dX6_bounds_21 : decode M_X6_bounds.2.1 21 = .ok (.aload_n 0, 1) := by decide +kernel
theorem dX6_bounds_22 : decode M_X6_bounds.2.1 22 = .ok (.aload_n 0, 1) := by decide +kernel
theorem dX6_bounds_23 : decode M_X6_bounds.2.1 23 = .ok (.invokevirtual 171, 3) := by decide +kernel
theorem dX6_bounds_26 : decode M_X6_bounds.2.1 26 = .ok (.bipush (-9), 2) := by decide +kernel
theorem dX6_bounds_28 : decode M_X6_bounds.2.1 28 = .ok (.iconst 0, 1) := by decide +kernel
theorem dX6_bounds_29 : decode M_X6_bounds.2.1 29 = .ok (.iconst 0, 1) := by decide +kernel
theorem dX6_bounds_30 : decode M_X6_bounds.2.1 30 = .ok (.invokevirtual 164, 3) := by decide +kernel
theorem dX6_bounds_33 : decode M_X6_bounds.2.1 33 = .ok (.aload_n 0, 1) := by decide +kernel
theorem dX6_bounds_34 : decode M_X6_bounds.2.1 34 = .ok (.iload_n 1, 1) := by decide +kernel
theorem dX6_bounds_35 : decode M_X6_bounds.2.1 35 = .ok (.invokevirtual 168, 3) := by decide +kernel
theorem dX6_bounds_38 : decode M_X6_bounds.2.1 38 = .ok (.aload_n 0, 1) := by decide +kernel
theorem dX6_bounds_39 : decode M_X6_bounds.2.1 39 = .ok (.getfield 128, 3) := by decide +kernel
theorem dX6_bounds_42 : decode M_X6_bounds.2.1 42 = .ok (.ifCond .eq 11, 3) := by decide +kernel
theorem dX6_bounds_45 : decode M_X6_bounds.2.1 45 = .ok (.aload_n 0, 1) := by decide +kernel
theorem dX6_bounds_46 : decode M_X6_bounds.2.1 46 = .ok (.iload_n 2, 1) := by decide +kernel
theorem dX6_bounds_47 : decode M_X6_bounds.2.1 47 = .ok (.invokevirtual 254, 3) := by decide +kernel
theorem dX6_bounds_50 : decode M_X6_bounds.2.1 50 = .ok (.goto 6, 3) := by decide +kernel
theorem dX6_bounds_53 : decode M_X6_bounds.2.1 53 = .ok (.ldc2_w 258, 3) := by decide +kernel
theorem dX6_bounds_56 : decode M_X6_bounds.2.1 56 = .ok (.lreturn, 1) := by decide +kernel
theorem dX6_bears_0 : decode M_X6_bears.2.1 0 = .ok (.aload_n 0, 1) := by decide +kernel
theorem dX6_bears_1 : decode M_X6_bears.2.1 1 = .ok (.iload_n 1, 1) := by decide +kernel
theorem dX6_bears_2 : decode M_X6_bears.2.1 2 = .ok (.iload_n 2, 1) := by decide +kernel
theorem dX6_bears_3 : decode M_X6_bears.2.1 3 = .ok (.invokevirtual 242, 3) := by decide +kernel
theorem dX6_bears_6 : decode M_X6_bears.2.1 6 = .ok (.ifCond .eq 12, 3) := by decide +kernel
theorem dX6_bears_9 : decode M_X6_bears.2.1 9 = .ok (.iload_n 3, 1) := by decide +kernel
theorem dX6_bears_10 : decode M_X6_bears.2.1 10 = .ok (.iconst 0, 1) := by decide +kernel
theorem dX6_bears_11 : decode M_X6_bears.2.1 11 = .ok (.iconst 3, 1) := by decide +kernel
theorem dX6_bears_12 : decode M_X6_bears.2.1 12 = .ok (.invokestatic 54, 3) := by decide +kernel
theorem dX6_bears_15 : decode M_X6_bears.2.1 15 = .ok (.ifCond .ne 7, 3) := by decide +kernel
theorem dX6_bears_18 : decode M_X6_bears.2.1 18 = .ok (.ldc2_w 95, 3) := by decide +kernel
theorem dX6_bears_21 : decode M_X6_bears.2.1 21 = .ok (.lreturn, 1) := by decide +kernel
theorem dX6_bears_22 : decode M_X6_bears.2.1 22 = .ok (.aload_n 0, 1) := by decide +kernel
theorem dX6_bears_23 : decode M_X6_bears.2.1 23 = .ok (.invokevirtual 161, 3) := by decide +kernel
theorem dX6_bears_26 : decode M_X6_bears.2.1 26 = .ok (.aload_n 0, 1) := by decide +kernel
theorem dX6_bears_27 : decode M_X6_bears.2.1 27 = .ok (.aload_n 0, 1) := by decide +kernel
theorem dX6_bears_28 : decode M_X6_bears.2.1 28 = .ok (.invokevirtual 171, 3) := by decide +kernel
theorem dX6_bears_31 : decode M_X6_bears.2.1 31 = .ok (.iload_n 1, 1) := by decide +kernel
theorem dX6_bears_32 : decode M_X6_bears.2.1 32 = .ok (.iload_n 2, 1) := by decide +kernel
theorem dX6_bears_33 : decode M_X6_bears.2.1 33 = .ok (.iconst 1, 1) := by decide +kernel
theorem dX6_bears_34 : decode M_X6_bears.2.1 34 = .ok (.invokevirtual 164, 3) := by decide +kernel
theorem dX6_bears_37 : decode M_X6_bears.2.1 37 = .ok (.aload_n 0, 1) := by decide +kernel
theorem dX6_bears_38 : decode M_X6_bears.2.1 38 = .ok (.bipush (-9), 2) := by decide +kernel
theorem dX6_bears_40 : decode M_X6_bears.2.1 40 = .ok (.invokevirtual 168, 3) := by decide +kernel
theorem dX6_bears_43 : decode M_X6_bears.2.1 43 = .ok (.aload_n 0, 1) := by decide +kernel
theorem dX6_bears_44 : decode M_X6_bears.2.1 44 = .ok (.getfield 128, 3) := by decide +kernel
theorem dX6_bears_47 : decode M_X6_bears.2.1 47 = .ok (.istore 4, 2) := by decide +kernel
theorem dX6_bears_49 : decode M_X6_bears.2.1 49 = .ok (.aload_n 0, 1) := by decide +kernel
theorem dX6_bears_50 : decode M_X6_bears.2.1 50 = .ok (.aload_n 0, 1) := by decide +kernel
theorem dX6_bears_51 : decode M_X6_bears.2.1 51 = .ok (.invokevirtual 171, 3) := by decide +kernel
theorem dX6_bears_54 : decode M_X6_bears.2.1 54 = .ok (.iload_n 1, 1) := by decide +kernel
theorem dX6_bears_55 : decode M_X6_bears.2.1 55 = .ok (.iload_n 2, 1) := by decide +kernel
theorem dX6_bears_56 : decode M_X6_bears.2.1 56 = .ok (.iconst 0, 1) := by decide +kernel
theorem dX6_bears_57 : decode M_X6_bears.2.1 57 = .ok (.invokevirtual 164, 3) := by decide +kernel
theorem dX6_bears_60 : decode M_X6_bears.2.1 60 = .ok (.aload_n 0, 1) := by decide +kernel
theorem dX6_bears_61 : decode M_X6_bears.2.1 61 = .ok (.aload_n 0, 1) := by decide +kernel
theorem dX6_bears_62 : decode M_X6_bears.2.1 62 = .ok (.getfield 72, 3) := by decide +kernel
theorem dX6_bears_65 : decode M_X6_bears.2.1 65 = .ok (.invokevirtual 168, 3) := by decide +kernel
theorem dX6_bears_68 : decode M_X6_bears.2.1 68 = .ok (.aload_n 0, 1) := by decide +kernel
theorem dX6_bears_69 : decode M_X6_bears.2.1 69 = .ok (.getfield 128, 3) := by decide +kernel
theorem dX6_bears_72 : decode M_X6_bears.2.1 72 = .ok (.ifCond .ne 9, 3) := by decide +kernel
theorem dX6_bears_75 : decode M_X6_bears.2.1 75 = .ok (.ldc2_w 258, 3) := by decide +kernel
theorem dX6_bears_78 : decode M_X6_bears.2.1 78 = .ok (.goto 24, 3) := by decide +kernel
theorem dX6_bears_81 : decode M_X6_bears.2.1 81 = .ok (.iload_n 3, 1) := by decide +kernel
theorem dX6_bears_82 : decode M_X6_bears.2.1 82 = .ok (.iconst 1, 1) := by decide +kernel
theorem dX6_bears_83 : decode M_X6_bears.2.1 83 = .ok (.if_icmp .le 14, 3) := by decide +kernel
theorem dX6_bears_86 : decode M_X6_bears.2.1 86 = .ok (.iload 4, 2) := by decide +kernel
theorem dX6_bears_88 : decode M_X6_bears.2.1 88 = .ok (.ifCond .eq 9, 3) := by decide +kernel
theorem dX6_bears_91 : decode M_X6_bears.2.1 91 = .ok (.ldc2_w 260, 3) := by decide +kernel
theorem dX6_bears_94 : decode M_X6_bears.2.1 94 = .ok (.goto 8, 3) := by decide +kernel
theorem dX6_bears_97 : decode M_X6_bears.2.1 97 = .ok (.aload_n 0, 1) := by decide +kernel
theorem dX6_bears_98 : decode M_X6_bears.2.1 98 = .ok (.iload_n 3, 1) := by decide +kernel
theorem dX6_bears_99 : decode M_X6_bears.2.1 99 = .ok (.invokevirtual 254, 3) := by decide +kernel
theorem dX6_bears_102 : decode M_X6_bears.2.1 102 = .ok (.lreturn, 1) := by decide +kernel
theorem dX6_where_0 : decode M_X6_where.2.1 0 = .ok (.iconst 0, 1) := by decide +kernel
theorem dX6_where_1 : decode M_X6_where.2.1 1 = .ok (.iload_n 1, 1) := by decide +kernel
theorem dX6_where_2 : decode M_X6_where.2.1 2 = .ok (.iload_n 2, 1) := by decide +kernel
theorem dX6_where_3 : decode M_X6_where.2.1 3 = .ok (.invokestatic 230, 3) := by decide +kernel
theorem dX6_where_6 : decode M_X6_where.2.1 6 = .ok (.ifCond .ne 5, 3) := by decide +kernel
theorem dX6_where_9 : decode M_X6_where.2.1 9 = .ok (.iconst (-1), 1) := by decide +kernel
theorem dX6_where_10 : decode M_X6_where.2.1 10 = .ok (.ireturn, 1) := by decide +kernel
theorem dX6_where_11 : decode M_X6_where.2.1 11 = .ok (.aload_n 0, 1) := by decide +kernel
theorem dX6_where_12 : decode M_X6_where.2.1 12 = .ok (.getfield 7, 3) := by decide +kernel
theorem dX6_where_15 : decode M_X6_where.2.1 15 = .ok (.iconst 0, 1) := by decide +kernel
theorem dX6_where_16 : decode M_X6_where.2.1 16 = .ok (.iaload, 1) := by decide +kernel
theorem dX6_where_17 : decode M_X6_where.2.1 17 = .ok (.iconst 4, 1) := by decide +kernel
theorem dX6_where_18 : decode M_X6_where.2.1 18 = .ok (.if_icmp .ne 6, 3) := by decide +kernel
theorem dX6_where_21 : decode M_X6_where.2.1 21 = .ok (.bipush (-3), 2) := by decide +kernel
theorem dX6_where_23 : decode M_X6_where.2.1 23 = .ok (.ireturn, 1) := by decide +kernel
theorem dX6_where_24 : decode M_X6_where.2.1 24 = .ok (.iconst 0, 1) := by decide +kernel
theorem dX6_where_25 : decode M_X6_where.2.1 25 = .ok (.istore_n 3, 1) := by decide +kernel
theorem dX6_where_26 : decode M_X6_where.2.1 26 = .ok (.iconst 0, 1) := by decide +kernel
theorem dX6_where_27 : decode M_X6_where.2.1 27 = .ok (.istore 4, 2) := by decide +kernel
theorem dX6_where_29 : decode M_X6_where.2.1 29 = .ok (.iload 4, 2) := by decide +kernel
theorem dX6_where_31 : decode M_X6_where.2.1 31 = .ok (.bipush 10, 2) := by decide +kernel
theorem dX6_where_33 : decode M_X6_where.2.1 33 = .ok (.if_icmp .ge 45, 3) := by decide +kernel
theorem dX6_where_36 : decode M_X6_where.2.1 36 = .ok (.aload_n 0, 1) := by decide +kernel
theorem dX6_where_37 : decode M_X6_where.2.1 37 = .ok (.iload 4, 2) := by decide +kernel
theorem dX6_where_39 : decode M_X6_where.2.1 39 = .ok (.iload_n 1, 1) := by decide +kernel
theorem dX6_where_40 : decode M_X6_where.2.1 40 = .ok (.iload_n 2, 1) := by decide +kernel
theorem dX6_where_41 : decode M_X6_where.2.1 41 = .ok (.invokevirtual 202, 3) := by decide +kernel
theorem dX6_where_44 : decode M_X6_where.2.1 44 = .ok (.iload_n 3, 1) := by decide +kernel
theorem dX6_where_45 : decode M_X6_where.2.1 45 = .ok (.aload_n 0, 1) := by decide +kernel
theorem dX6_where_46 : decode M_X6_where.2.1 46 = .ok (.invokevirtual 251, 3) := by decide +kernel
theorem dX6_where_49 : decode M_X6_where.2.1 49 = .ok (.ifCond .eq 10, 3) := by decide +kernel
theorem dX6_where_52 : decode M_X6_where.2.1 52 = .ok (.iconst 1, 1) := by decide +kernel
theorem dX6_where_53 : decode M_X6_where.2.1 53 = .ok (.iload 4, 2) := by decide +kernel
theorem dX6_where_55 : decode M_X6_where.2.1 55 = .ok (.ishl, 1) := by decide +kernel
theorem dX6_where_56 : decode M_X6_where.2.1 56 = .ok (.goto 4, 3) := by decide +kernel
theorem dX6_where_59 : decode M_X6_where.2.1 59 = .ok (.iconst 0, 1) := by decide +kernel
theorem dX6_where_60 : decode M_X6_where.2.1 60 = .ok (.ior, 1) := by decide +kernel
theorem dX6_where_61 : decode M_X6_where.2.1 61 = .ok (.istore_n 3, 1) := by decide +kernel
theorem dX6_where_62 : decode M_X6_where.2.1 62 = .ok (.aload_n 0, 1) := by decide +kernel
theorem dX6_where_63 : decode M_X6_where.2.1 63 = .ok (.getfield 7, 3) := by decide +kernel
theorem dX6_where_66 : decode M_X6_where.2.1 66 = .ok (.iconst 0, 1) := by decide +kernel
theorem dX6_where_67 : decode M_X6_where.2.1 67 = .ok (.dup2, 1) := by decide +kernel
theorem dX6_where_68 : decode M_X6_where.2.1 68 = .ok (.iaload, 1) := by decide +kernel
theorem dX6_where_69 : decode M_X6_where.2.1 69 = .ok (.iconst 1, 1) := by decide +kernel
theorem dX6_where_70 : decode M_X6_where.2.1 70 = .ok (.isub, 1) := by decide +kernel
theorem dX6_where_71 : decode M_X6_where.2.1 71 = .ok (.iastore, 1) := by decide +kernel
theorem dX6_where_72 : decode M_X6_where.2.1 72 = .ok (.iinc 4 1, 3) := by decide +kernel
theorem dX6_where_75 : decode M_X6_where.2.1 75 = .ok (.goto (-46), 3) := by decide +kernel
theorem dX6_where_78 : decode M_X6_where.2.1 78 = .ok (.iload_n 3, 1) := by decide +kernel
theorem dX6_where_79 : decode M_X6_where.2.1 79 = .ok (.ireturn, 1) := by decide +kernel
theorem dX6_weights_0 : decode M_X6_weights.2.1 0 = .ok (.aload_n 0, 1) := by decide +kernel
theorem dX6_weights_1 : decode M_X6_weights.2.1 1 = .ok (.iload_n 1, 1) := by decide +kernel
theorem dX6_weights_2 : decode M_X6_weights.2.1 2 = .ok (.invokevirtual 233, 3) := by decide +kernel
theorem dX6_weights_5 : decode M_X6_weights.2.1 5 = .ok (.ifCond .ne 5, 3) := by decide +kernel
theorem dX6_weights_8 : decode M_X6_weights.2.1 8 = .ok (.iconst (-1), 1) := by decide +kernel
theorem dX6_weights_9 : decode M_X6_weights.2.1 9 = .ok (.ireturn, 1) := by decide +kernel
theorem dX6_weights_10 : decode M_X6_weights.2.1 10 = .ok (.aload_n 0, 1) := by decide +kernel
theorem dX6_weights_11 : decode M_X6_weights.2.1 11 = .ok (.iload_n 1, 1) := by decide +kernel
theorem dX6_weights_12 : decode M_X6_weights.2.1 12 = .ok (.iconst 3, 1) := by decide +kernel
theorem dX6_weights_13 : decode M_X6_weights.2.1 13 = .ok (.invokevirtual 58, 3) := by decide +kernel
theorem dX6_weights_16 : decode M_X6_weights.2.1 16 = .ok (.istore_n 2, 1) := by decide +kernel
theorem dX6_weights_17 : decode M_X6_weights.2.1 17 = .ok (.iconst 0, 1) := by decide +kernel
theorem dX6_weights_18 : decode M_X6_weights.2.1 18 = .ok (.istore_n 3, 1) := by decide +kernel
theorem dX6_weights_19 : decode M_X6_weights.2.1 19 = .ok (.iconst 1, 1) := by decide +kernel
theorem dX6_weights_20 : decode M_X6_weights.2.1 20 = .ok (.istore 4, 2) := by decide +kernel
theorem dX6_weights_22 : decode M_X6_weights.2.1 22 = .ok (.iload 4, 2) := by decide +kernel
theorem dX6_weights_24 : decode M_X6_weights.2.1 24 = .ok (.bipush 10, 2) := by decide +kernel
theorem dX6_weights_26 : decode M_X6_weights.2.1 26 = .ok (.if_icmp .ge 39, 3) := by decide +kernel
theorem dX6_weights_29 : decode M_X6_weights.2.1 29 = .ok (.aload_n 0, 1) := by decide +kernel
theorem dX6_weights_30 : decode M_X6_weights.2.1 30 = .ok (.getfield 7, 3) := by decide +kernel
theorem dX6_weights_33 : decode M_X6_weights.2.1 33 = .ok (.iconst 5, 1) := by decide +kernel
theorem dX6_weights_34 : decode M_X6_weights.2.1 34 = .ok (.iload_n 1, 1) := by decide +kernel
theorem dX6_weights_35 : decode M_X6_weights.2.1 35 = .ok (.imul, 1) := by decide +kernel
theorem dX6_weights_36 : decode M_X6_weights.2.1 36 = .ok (.iconst 3, 1) := by decide +kernel
theorem dX6_weights_37 : decode M_X6_weights.2.1 37 = .ok (.iadd, 1) := by decide +kernel
theorem dX6_weights_38 : decode M_X6_weights.2.1 38 = .ok (.iload 4, 2) := by decide +kernel
theorem dX6_weights_40 : decode M_X6_weights.2.1 40 = .ok (.iastore, 1) := by decide +kernel
theorem dX6_weights_41 : decode M_X6_weights.2.1 41 = .ok (.iload_n 3, 1) := by decide +kernel
theorem dX6_weights_42 : decode M_X6_weights.2.1 42 = .ok (.aload_n 0, 1) := by decide +kernel
theorem dX6_weights_43 : decode M_X6_weights.2.1 43 = .ok (.invokevirtual 251, 3) := by decide +kernel
theorem dX6_weights_46 : decode M_X6_weights.2.1 46 = .ok (.ifCond .eq 10, 3) := by decide +kernel
theorem dX6_weights_49 : decode M_X6_weights.2.1 49 = .ok (.iconst 1, 1) := by decide +kernel
theorem dX6_weights_50 : decode M_X6_weights.2.1 50 = .ok (.iload 4, 2) := by decide +kernel
theorem dX6_weights_52 : decode M_X6_weights.2.1 52 = .ok (.ishl, 1) := by decide +kernel
theorem dX6_weights_53 : decode M_X6_weights.2.1 53 = .ok (.goto 4, 3) := by decide +kernel
theorem dX6_weights_56 : decode M_X6_weights.2.1 56 = .ok (.iconst 0, 1) := by decide +kernel
theorem dX6_weights_57 : decode M_X6_weights.2.1 57 = .ok (.ior, 1) := by decide +kernel
theorem dX6_weights_58 : decode M_X6_weights.2.1 58 = .ok (.istore_n 3, 1) := by decide +kernel
theorem dX6_weights_59 : decode M_X6_weights.2.1 59 = .ok (.iinc 4 1, 3) := by decide +kernel
theorem dX6_weights_62 : decode M_X6_weights.2.1 62 = .ok (.goto (-40), 3) := by decide +kernel
theorem dX6_weights_65 : decode M_X6_weights.2.1 65 = .ok (.aload_n 0, 1) := by decide +kernel
theorem dX6_weights_66 : decode M_X6_weights.2.1 66 = .ok (.getfield 7, 3) := by decide +kernel
theorem dX6_weights_69 : decode M_X6_weights.2.1 69 = .ok (.iconst 5, 1) := by decide +kernel
theorem dX6_weights_70 : decode M_X6_weights.2.1 70 = .ok (.iload_n 1, 1) := by decide +kernel
theorem dX6_weights_71 : decode M_X6_weights.2.1 71 = .ok (.imul, 1) := by decide +kernel
theorem dX6_weights_72 : decode M_X6_weights.2.1 72 = .ok (.iconst 3, 1) := by decide +kernel
theorem dX6_weights_73 : decode M_X6_weights.2.1 73 = .ok (.iadd, 1) := by decide +kernel
theorem dX6_weights_74 : decode M_X6_weights.2.1 74 = .ok (.iload_n 2, 1) := by decide +kernel
theorem dX6_weights_75 : decode M_X6_weights.2.1 75 = .ok (.iastore, 1) := by decide +kernel
theorem dX6_weights_76 : decode M_X6_weights.2.1 76 = .ok (.iload_n 3, 1) := by decide +kernel
theorem dX6_weights_77 : decode M_X6_weights.2.1 77 = .ok (.ireturn, 1) := by decide +kernel
theorem dX6_restsWithout_0 : decode M_X6_restsWithout.2.1 0 = .ok (.aload_n 0, 1) := by decide +kernel
theorem dX6_restsWithout_1 : decode M_X6_restsWithout.2.1 1 = .ok (.aload_n 0, 1) := by decide +kernel
theorem dX6_restsWithout_2 : decode M_X6_restsWithout.2.1 2 = .ok (.getfield 51, 3) := by decide +kernel
theorem dX6_restsWithout_5 : decode M_X6_restsWithout.2.1 5 = .ok (.iconst 0, 1) := by decide +kernel
theorem dX6_restsWithout_6 : decode M_X6_restsWithout.2.1 6 = .ok (.invokevirtual 217, 3) := by decide +kernel
theorem dX6_restsWithout_9 : decode M_X6_restsWithout.2.1 9 = .ok (.aload_n 0, 1) := by decide +kernel
theorem dX6_restsWithout_10 : decode M_X6_restsWithout.2.1 10 = .ok (.iload_n 1, 1) := by decide +kernel
theorem dX6_restsWithout_11 : decode M_X6_restsWithout.2.1 11 = .ok (.invokevirtual 239, 3) := by decide +kernel
theorem dX6_restsWithout_14 : decode M_X6_restsWithout.2.1 14 = .ok (.aload_n 0, 1) := by decide +kernel
theorem dX6_restsWithout_15 : decode M_X6_restsWithout.2.1 15 = .ok (.invokevirtual 251, 3) := by decide +kernel
theorem dX6_restsWithout_18 : decode M_X6_restsWithout.2.1 18 = .ok (.istore_n 2, 1) := by decide +kernel
theorem dX6_restsWithout_19 : decode M_X6_restsWithout.2.1 19 = .ok (.aload_n 0, 1) := by decide +kernel
theorem dX6_restsWithout_20 : decode M_X6_restsWithout.2.1 20 = .ok (.aload_n 0, 1) := by decide +kernel
theorem dX6_restsWithout_21 : decode M_X6_restsWithout.2.1 21 = .ok (.getfield 51, 3) := by decide +kernel
theorem dX6_restsWithout_24 : decode M_X6_restsWithout.2.1 24 = .ok (.iconst 0, 1) := by decide +kernel
theorem dX6_restsWithout_25 : decode M_X6_restsWithout.2.1 25 = .ok (.invokevirtual 224, 3) := by decide +kernel
theorem dX6_restsWithout_28 : decode M_X6_restsWithout.2.1 28 = .ok (.iload_n 2, 1) := by decide +kernel
theorem dX6_restsWithout_29 : decode M_X6_restsWithout.2.1 29 = .ok (.ireturn, 1) := by decide +kernel
theorem dX6_key_0 : decode M_X6_key.2.1 0 = .ok (.aload_n 0, 1) := by decide +kernel
theorem dX6_key_1 : decode M_X6_key.2.1 1 = .ok (.invokevirtual 251, 3) := by decide +kernel
theorem dX6_key_4 : decode M_X6_key.2.1 4 = .ok (.ifCond .ne 6, 3) := by decide +kernel
theorem dX6_key_7 : decode M_X6_key.2.1 7 = .ok (.bipush (-9), 2) := by decide +kernel
theorem dX6_key_9 : decode M_X6_key.2.1 9 = .ok (.ireturn, 1) := by decide +kernel
theorem dX6_key_10 : decode M_X6_key.2.1 10 = .ok (.iconst 0, 1) := by decide +kernel
theorem dX6_key_11 : decode M_X6_key.2.1 11 = .ok (.istore_n 1, 1) := by decide +kernel
theorem dX6_key_12 : decode M_X6_key.2.1 12 = .ok (.iload_n 1, 1) := by decide +kernel
theorem dX6_key_13 : decode M_X6_key.2.1 13 = .ok (.aload_n 0, 1) := by decide +kernel
theorem dX6_key_14 : decode M_X6_key.2.1 14 = .ok (.invokevirtual 84, 3) := by decide +kernel
theorem dX6_key_17 : decode M_X6_key.2.1 17 = .ok (.if_icmp .ge 31, 3) := by decide +kernel
theorem dX6_key_20 : decode M_X6_key.2.1 20 = .ok (.aload_n 0, 1) := by decide +kernel
theorem dX6_key_21 : decode M_X6_key.2.1 21 = .ok (.invokevirtual 161, 3) := by decide +kernel
theorem dX6_key_24 : decode M_X6_key.2.1 24 = .ok (.aload_n 0, 1) := by decide +kernel
theorem dX6_key_25 : decode M_X6_key.2.1 25 = .ok (.iload_n 1, 1) := by decide +kernel
theorem dX6_key_26 : decode M_X6_key.2.1 26 = .ok (.invokevirtual 236, 3) := by decide +kernel
theorem dX6_key_29 : decode M_X6_key.2.1 29 = .ok (.ifCond .ne 13, 3) := by decide +kernel
theorem dX6_key_32 : decode M_X6_key.2.1 32 = .ok (.aload_n 0, 1) := by decide +kernel
theorem dX6_key_33 : decode M_X6_key.2.1 33 = .ok (.iload_n 1, 1) := by decide +kernel
theorem dX6_key_34 : decode M_X6_key.2.1 34 = .ok (.invokevirtual 262, 3) := by decide +kernel
theorem dX6_key_37 : decode M_X6_key.2.1 37 = .ok (.ifCond .ne 5, 3) := by decide +kernel
theorem dX6_key_40 : decode M_X6_key.2.1 40 = .ok (.iload_n 1, 1) := by decide +kernel
theorem dX6_key_41 : decode M_X6_key.2.1 41 = .ok (.ireturn, 1) := by decide +kernel
theorem dX6_key_42 : decode M_X6_key.2.1 42 = .ok (.iinc 1 1, 3) := by decide +kernel
theorem dX6_key_45 : decode M_X6_key.2.1 45 = .ok (.goto (-33), 3) := by decide +kernel
theorem dX6_key_48 : decode M_X6_key.2.1 48 = .ok (.bipush (-9), 2) := by decide +kernel
theorem dX6_key_50 : decode M_X6_key.2.1 50 = .ok (.ireturn, 1) := by decide +kernel
theorem dX6_hold_0 : decode M_X6_hold.2.1 0 = .ok (.aload_n 0, 1) := by decide +kernel
theorem dX6_hold_1 : decode M_X6_hold.2.1 1 = .ok (.invokevirtual 171, 3) := by decide +kernel
theorem dX6_hold_4 : decode M_X6_hold.2.1 4 = .ok (.istore_n 1, 1) := by decide +kernel
theorem dX6_hold_5 : decode M_X6_hold.2.1 5 = .ok (.iconst 0, 1) := by decide +kernel
theorem dX6_hold_6 : decode M_X6_hold.2.1 6 = .ok (.istore_n 2, 1) := by decide +kernel
theorem dX6_hold_7 : decode M_X6_hold.2.1 7 = .ok (.iload_n 2, 1) := by decide +kernel
theorem dX6_hold_8 : decode M_X6_hold.2.1 8 = .ok (.aload_n 0, 1) := by decide +kernel
theorem dX6_hold_9 : decode M_X6_hold.2.1 9 = .ok (.invokevirtual 171, 3) := by decide +kernel
theorem dX6_hold_12 : decode M_X6_hold.2.1 12 = .ok (.if_icmp .gt 41, 3) := by decide +kernel
theorem dX6_hold_15 : decode M_X6_hold.2.1 15 = .ok (.iload_n 2, 1) := by decide +kernel
theorem dX6_hold_16 : decode M_X6_hold.2.1 16 = .ok (.invokestatic 125, 3) := by decide +kernel
theorem dX6_hold_19 : decode M_X6_hold.2.1 19 = .ok (.iload_n 1, 1) := by decide +kernel
theorem dX6_hold_20 : decode M_X6_hold.2.1 20 = .ok (.invokestatic 125, 3) := by decide +kernel
theorem dX6_hold_23 : decode M_X6_hold.2.1 23 = .ok (.if_icmp .ge 22, 3) := by decide +kernel
theorem dX6_hold_26 : decode M_X6_hold.2.1 26 = .ok (.aload_n 0, 1) := by decide +kernel
theorem dX6_hold_27 : decode M_X6_hold.2.1 27 = .ok (.aload_n 0, 1) := by decide +kernel
theorem dX6_hold_28 : decode M_X6_hold.2.1 28 = .ok (.invokevirtual 171, 3) := by decide +kernel
theorem dX6_hold_31 : decode M_X6_hold.2.1 31 = .ok (.iload_n 2, 1) := by decide +kernel
theorem dX6_hold_32 : decode M_X6_hold.2.1 32 = .ok (.iconst (-1), 1) := by decide +kernel
theorem dX6_hold_33 : decode M_X6_hold.2.1 33 = .ok (.ixor, 1) := by decide +kernel
theorem dX6_hold_34 : decode M_X6_hold.2.1 34 = .ok (.iand, 1) := by decide +kernel
theorem dX6_hold_35 : decode M_X6_hold.2.1 35 = .ok (.invokevirtual 174, 3) := by decide +kernel
theorem dX6_hold_38 : decode M_X6_hold.2.1 38 = .ok (.ifCond .eq 7, 3) := by decide +kernel
theorem dX6_hold_41 : decode M_X6_hold.2.1 41 = .ok (.iload_n 2, 1) := by decide +kernel
theorem dX6_hold_42 : decode M_X6_hold.2.1 42 = .ok (.goto 4, 3) := by decide +kernel
theorem dX6_hold_45 : decode M_X6_hold.2.1 45 = .ok (.iload_n 1, 1) := by decide +kernel
theorem dX6_hold_46 : decode M_X6_hold.2.1 46 = .ok (.istore_n 1, 1) := by decide +kernel
theorem dX6_hold_47 : decode M_X6_hold.2.1 47 = .ok (.iinc 2 1, 3) := by decide +kernel
theorem dX6_hold_50 : decode M_X6_hold.2.1 50 = .ok (.goto (-43), 3) := by decide +kernel
theorem dX6_hold_53 : decode M_X6_hold.2.1 53 = .ok (.iload_n 1, 1) := by decide +kernel
theorem dX6_hold_54 : decode M_X6_hold.2.1 54 = .ok (.ireturn, 1) := by decide +kernel
theorem dX6_keep_0 : decode M_X6_keep.2.1 0 = .ok (.iload_n 1, 1) := by decide +kernel
theorem dX6_keep_1 : decode M_X6_keep.2.1 1 = .ok (.iconst 0, 1) := by decide +kernel
theorem dX6_keep_2 : decode M_X6_keep.2.1 2 = .ok (.iconst 1, 1) := by decide +kernel
theorem dX6_keep_3 : decode M_X6_keep.2.1 3 = .ok (.invokestatic 54, 3) := by decide +kernel
theorem dX6_keep_6 : decode M_X6_keep.2.1 6 = .ok (.ifCond .ne 5, 3) := by decide +kernel
theorem dX6_keep_9 : decode M_X6_keep.2.1 9 = .ok (.iconst (-1), 1) := by decide +kernel
theorem dX6_keep_10 : decode M_X6_keep.2.1 10 = .ok (.ireturn, 1) := by decide +kernel
theorem dX6_keep_11 : decode M_X6_keep.2.1 11 = .ok (.aload_n 0, 1) := by decide +kernel
theorem dX6_keep_12 : decode M_X6_keep.2.1 12 = .ok (.aload_n 0, 1) := by decide +kernel
theorem dX6_keep_13 : decode M_X6_keep.2.1 13 = .ok (.getfield 16, 3) := by decide +kernel
theorem dX6_keep_16 : decode M_X6_keep.2.1 16 = .ok (.bipush 21, 2) := by decide +kernel
theorem dX6_keep_18 : decode M_X6_keep.2.1 18 = .ok (.iload_n 1, 1) := by decide +kernel
theorem dX6_keep_19 : decode M_X6_keep.2.1 19 = .ok (.imul, 1) := by decide +kernel
theorem dX6_keep_20 : decode M_X6_keep.2.1 20 = .ok (.invokevirtual 217, 3) := by decide +kernel
theorem dX6_keep_23 : decode M_X6_keep.2.1 23 = .ok (.aload_n 0, 1) := by decide +kernel
theorem dX6_keep_24 : decode M_X6_keep.2.1 24 = .ok (.getfield 19, 3) := by decide +kernel
theorem dX6_keep_27 : decode M_X6_keep.2.1 27 = .ok (.iload_n 1, 1) := by decide +kernel
theorem dX6_keep_28 : decode M_X6_keep.2.1 28 = .ok (.iconst 1, 1) := by decide +kernel
theorem dX6_keep_29 : decode M_X6_keep.2.1 29 = .ok (.bastore, 1) := by decide +kernel
theorem dX6_keep_30 : decode M_X6_keep.2.1 30 = .ok (.aload_n 0, 1) := by decide +kernel
theorem dX6_keep_31 : decode M_X6_keep.2.1 31 = .ok (.getfield 7, 3) := by decide +kernel
theorem dX6_keep_34 : decode M_X6_keep.2.1 34 = .ok (.iconst 0, 1) := by decide +kernel
theorem dX6_keep_35 : decode M_X6_keep.2.1 35 = .ok (.iaload, 1) := by decide +kernel
theorem dX6_keep_36 : decode M_X6_keep.2.1 36 = .ok (.ireturn, 1) := by decide +kernel
theorem dX6_back_0 : decode M_X6_back.2.1 0 = .ok (.iload_n 1, 1) := by decide +kernel
theorem dX6_back_1 : decode M_X6_back.2.1 1 = .ok (.iconst 0, 1) := by decide +kernel
theorem dX6_back_2 : decode M_X6_back.2.1 2 = .ok (.iconst 1, 1) := by decide +kernel
theorem dX6_back_3 : decode M_X6_back.2.1 3 = .ok (.invokestatic 54, 3) := by decide +kernel
theorem dX6_back_6 : decode M_X6_back.2.1 6 = .ok (.ifCond .ne 5, 3) := by decide +kernel
theorem dX6_back_9 : decode M_X6_back.2.1 9 = .ok (.iconst (-1), 1) := by decide +kernel
theorem dX6_back_10 : decode M_X6_back.2.1 10 = .ok (.ireturn, 1) := by decide +kernel
theorem dX6_back_11 : decode M_X6_back.2.1 11 = .ok (.aload_n 0, 1) := by decide +kernel
theorem dX6_back_12 : decode M_X6_back.2.1 12 = .ok (.getfield 19, 3) := by decide +kernel
theorem dX6_back_15 : decode M_X6_back.2.1 15 = .ok (.iload_n 1, 1) := by decide +kernel
theorem dX6_back_16 : decode M_X6_back.2.1 16 = .ok (.baload, 1) := by decide +kernel
theorem dX6_back_17 : decode M_X6_back.2.1 17 = .ok (.ifCond .ne 6, 3) := by decide +kernel
theorem dX6_back_20 : decode M_X6_back.2.1 20 = .ok (.bipush (-2), 2) := by decide +kernel
theorem dX6_back_22 : decode M_X6_back.2.1 22 = .ok (.ireturn, 1) := by decide +kernel
theorem dX6_back_23 : decode M_X6_back.2.1 23 = .ok (.aload_n 0, 1) := by decide +kernel
theorem dX6_back_24 : decode M_X6_back.2.1 24 = .ok (.aload_n 0, 1) := by decide +kernel
theorem dX6_back_25 : decode M_X6_back.2.1 25 = .ok (.getfield 16, 3) := by decide +kernel
theorem dX6_back_28 : decode M_X6_back.2.1 28 = .ok (.bipush 21, 2) := by decide +kernel
theorem dX6_back_30 : decode M_X6_back.2.1 30 = .ok (.iload_n 1, 1) := by decide +kernel
theorem dX6_back_31 : decode M_X6_back.2.1 31 = .ok (.imul, 1) := by decide +kernel
theorem dX6_back_32 : decode M_X6_back.2.1 32 = .ok (.invokevirtual 224, 3) := by decide +kernel
theorem dX6_back_35 : decode M_X6_back.2.1 35 = .ok (.aload_n 0, 1) := by decide +kernel
theorem dX6_back_36 : decode M_X6_back.2.1 36 = .ok (.iconst 0, 1) := by decide +kernel
theorem dX6_back_37 : decode M_X6_back.2.1 37 = .ok (.putfield 214, 3) := by decide +kernel
theorem dX6_back_40 : decode M_X6_back.2.1 40 = .ok (.aload_n 0, 1) := by decide +kernel
theorem dX6_back_41 : decode M_X6_back.2.1 41 = .ok (.getfield 7, 3) := by decide +kernel
theorem dX6_back_44 : decode M_X6_back.2.1 44 = .ok (.iconst 0, 1) := by decide +kernel
theorem dX6_back_45 : decode M_X6_back.2.1 45 = .ok (.iaload, 1) := by decide +kernel
theorem dX6_back_46 : decode M_X6_back.2.1 46 = .ok (.ireturn, 1) := by decide +kernel
theorem dX6_heavy_0 : decode M_X6_heavy.2.1 0 = .ok (.iconst 0, 1) := by decide +kernel
theorem dX6_heavy_1 : decode M_X6_heavy.2.1 1 = .ok (.istore_n 1, 1) := by decide +kernel
theorem dX6_heavy_2 : decode M_X6_heavy.2.1 2 = .ok (.iconst 0, 1) := by decide +kernel
theorem dX6_heavy_3 : decode M_X6_heavy.2.1 3 = .ok (.istore_n 2, 1) := by decide +kernel
theorem dX6_heavy_4 : decode M_X6_heavy.2.1 4 = .ok (.iload_n 2, 1) := by decide +kernel
theorem dX6_heavy_5 : decode M_X6_heavy.2.1 5 = .ok (.aload_n 0, 1) := by decide +kernel
theorem dX6_heavy_6 : decode M_X6_heavy.2.1 6 = .ok (.invokevirtual 84, 3) := by decide +kernel
theorem dX6_heavy_9 : decode M_X6_heavy.2.1 9 = .ok (.if_icmp .ge 25, 3) := by decide +kernel
theorem dX6_heavy_12 : decode M_X6_heavy.2.1 12 = .ok (.iload_n 1, 1) := by decide +kernel
theorem dX6_heavy_13 : decode M_X6_heavy.2.1 13 = .ok (.aload_n 0, 1) := by decide +kernel
theorem dX6_heavy_14 : decode M_X6_heavy.2.1 14 = .ok (.iload_n 2, 1) := by decide +kernel
theorem dX6_heavy_15 : decode M_X6_heavy.2.1 15 = .ok (.iconst 3, 1) := by decide +kernel
theorem dX6_heavy_16 : decode M_X6_heavy.2.1 16 = .ok (.invokevirtual 58, 3) := by decide +kernel
theorem dX6_heavy_19 : decode M_X6_heavy.2.1 19 = .ok (.aload_n 0, 1) := by decide +kernel
theorem dX6_heavy_20 : decode M_X6_heavy.2.1 20 = .ok (.iload_n 2, 1) := by decide +kernel
theorem dX6_heavy_21 : decode M_X6_heavy.2.1 21 = .ok (.iconst 4, 1) := by decide +kernel
theorem dX6_heavy_22 : decode M_X6_heavy.2.1 22 = .ok (.invokevirtual 58, 3) := by decide +kernel
theorem dX6_heavy_25 : decode M_X6_heavy.2.1 25 = .ok (.iadd, 1) := by decide +kernel
theorem dX6_heavy_26 : decode M_X6_heavy.2.1 26 = .ok (.iadd, 1) := by decide +kernel
theorem dX6_heavy_27 : decode M_X6_heavy.2.1 27 = .ok (.istore_n 1, 1) := by decide +kernel
theorem dX6_heavy_28 : decode M_X6_heavy.2.1 28 = .ok (.iinc 2 1, 3) := by decide +kernel
theorem dX6_heavy_31 : decode M_X6_heavy.2.1 31 = .ok (.goto (-27), 3) := by decide +kernel
theorem dX6_heavy_34 : decode M_X6_heavy.2.1 34 = .ok (.iload_n 1, 1) := by decide +kernel
theorem dX6_heavy_35 : decode M_X6_heavy.2.1 35 = .ok (.ireturn, 1) := by decide +kernel
theorem dX6_highest_0 : decode M_X6_highest.2.1 0 = .ok (.aload_n 0, 1) := by decide +kernel
theorem dX6_highest_1 : decode M_X6_highest.2.1 1 = .ok (.invokevirtual 161, 3) := by decide +kernel
theorem dX6_highest_4 : decode M_X6_highest.2.1 4 = .ok (.bipush (-9), 2) := by decide +kernel
theorem dX6_highest_6 : decode M_X6_highest.2.1 6 = .ok (.istore_n 1, 1) := by decide +kernel
theorem dX6_highest_7 : decode M_X6_highest.2.1 7 = .ok (.iconst 0, 1) := by decide +kernel
theorem dX6_highest_8 : decode M_X6_highest.2.1 8 = .ok (.istore_n 2, 1) := by decide +kernel
theorem dX6_highest_9 : decode M_X6_highest.2.1 9 = .ok (.iload_n 2, 1) := by decide +kernel
theorem dX6_highest_10 : decode M_X6_highest.2.1 10 = .ok (.aload_n 0, 1) := by decide +kernel
theorem dX6_highest_11 : decode M_X6_highest.2.1 11 = .ok (.invokevirtual 84, 3) := by decide +kernel
theorem dX6_highest_14 : decode M_X6_highest.2.1 14 = .ok (.if_icmp .ge 30, 3) := by decide +kernel
theorem dX6_highest_17 : decode M_X6_highest.2.1 17 = .ok (.aload_n 0, 1) := by decide +kernel
theorem dX6_highest_18 : decode M_X6_highest.2.1 18 = .ok (.getfield 26, 3) := by decide +kernel
theorem dX6_highest_21 : decode M_X6_highest.2.1 21 = .ok (.iload_n 2, 1) := by decide +kernel
theorem dX6_highest_22 : decode M_X6_highest.2.1 22 = .ok (.iaload, 1) := by decide +kernel
theorem dX6_highest_23 : decode M_X6_highest.2.1 23 = .ok (.iload_n 1, 1) := by decide +kernel
theorem dX6_highest_24 : decode M_X6_highest.2.1 24 = .ok (.if_icmp .le 12, 3) := by decide +kernel
theorem dX6_highest_27 : decode M_X6_highest.2.1 27 = .ok (.aload_n 0, 1) := by decide +kernel
theorem dX6_highest_28 : decode M_X6_highest.2.1 28 = .ok (.getfield 26, 3) := by decide +kernel
theorem dX6_highest_31 : decode M_X6_highest.2.1 31 = .ok (.iload_n 2, 1) := by decide +kernel
theorem dX6_highest_32 : decode M_X6_highest.2.1 32 = .ok (.iaload, 1) := by decide +kernel
theorem dX6_highest_33 : decode M_X6_highest.2.1 33 = .ok (.goto 4, 3) := by decide +kernel
theorem dX6_highest_36 : decode M_X6_highest.2.1 36 = .ok (.iload_n 1, 1) := by decide +kernel
theorem dX6_highest_37 : decode M_X6_highest.2.1 37 = .ok (.istore_n 1, 1) := by decide +kernel
theorem dX6_highest_38 : decode M_X6_highest.2.1 38 = .ok (.iinc 2 1, 3) := by decide +kernel
theorem dX6_highest_41 : decode M_X6_highest.2.1 41 = .ok (.goto (-32), 3) := by decide +kernel
theorem dX6_highest_44 : decode M_X6_highest.2.1 44 = .ok (.iload_n 1, 1) := by decide +kernel
theorem dX6_highest_45 : decode M_X6_highest.2.1 45 = .ok (.ireturn, 1) := by decide +kernel
theorem dX6_contactsNow_0 : decode M_X6_contactsNow.2.1 0 = .ok (.aload_n 0, 1) := by decide +kernel
theorem dX6_contactsNow_1 : decode M_X6_contactsNow.2.1 1 = .ok (.invokevirtual 161, 3) := by decide +kernel
theorem dX6_contactsNow_4 : decode M_X6_contactsNow.2.1 4 = .ok (.aload_n 0, 1) := by decide +kernel
theorem dX6_contactsNow_5 : decode M_X6_contactsNow.2.1 5 = .ok (.getfield 72, 3) := by decide +kernel
theorem dX6_contactsNow_8 : decode M_X6_contactsNow.2.1 8 = .ok (.ireturn, 1) := by decide +kernel
theorem dX6_count_0 : decode M_X6_count.2.1 0 = .ok (.iload_n 1, 1) := by decide +kernel
theorem dX6_count_1 : decode M_X6_count.2.1 1 = .ok (.tableswitch 71 0 5 #[39, 46, 51, 56, 61, 66], 39) := by decide +kernel
theorem dX6_count_40 : decode M_X6_count.2.1 40 = .ok (.aload_n 0, 1) := by decide +kernel
theorem dX6_count_41 : decode M_X6_count.2.1 41 = .ok (.getfield 7, 3) := by decide +kernel
theorem dX6_count_44 : decode M_X6_count.2.1 44 = .ok (.iconst 0, 1) := by decide +kernel
theorem dX6_count_45 : decode M_X6_count.2.1 45 = .ok (.iaload, 1) := by decide +kernel
theorem dX6_count_46 : decode M_X6_count.2.1 46 = .ok (.ireturn, 1) := by decide +kernel
theorem dX6_count_47 : decode M_X6_count.2.1 47 = .ok (.aload_n 0, 1) := by decide +kernel
theorem dX6_count_48 : decode M_X6_count.2.1 48 = .ok (.invokevirtual 265, 3) := by decide +kernel
theorem dX6_count_51 : decode M_X6_count.2.1 51 = .ok (.ireturn, 1) := by decide +kernel
theorem dX6_count_52 : decode M_X6_count.2.1 52 = .ok (.aload_n 0, 1) := by decide +kernel
theorem dX6_count_53 : decode M_X6_count.2.1 53 = .ok (.invokevirtual 268, 3) := by decide +kernel
theorem dX6_count_56 : decode M_X6_count.2.1 56 = .ok (.ireturn, 1) := by decide +kernel
theorem dX6_count_57 : decode M_X6_count.2.1 57 = .ok (.aload_n 0, 1) := by decide +kernel
theorem dX6_count_58 : decode M_X6_count.2.1 58 = .ok (.invokevirtual 271, 3) := by decide +kernel
theorem dX6_count_61 : decode M_X6_count.2.1 61 = .ok (.ireturn, 1) := by decide +kernel
theorem dX6_count_62 : decode M_X6_count.2.1 62 = .ok (.aload_n 0, 1) := by decide +kernel
theorem dX6_count_63 : decode M_X6_count.2.1 63 = .ok (.getfield 184, 3) := by decide +kernel
theorem dX6_count_66 : decode M_X6_count.2.1 66 = .ok (.ireturn, 1) := by decide +kernel
theorem dX6_count_67 : decode M_X6_count.2.1 67 = .ok (.aload_n 0, 1) := by decide +kernel
theorem dX6_count_68 : decode M_X6_count.2.1 68 = .ok (.getfield 214, 3) := by decide +kernel
theorem dX6_count_71 : decode M_X6_count.2.1 71 = .ok (.ireturn, 1) := by decide +kernel
theorem dX6_count_72 : decode M_X6_count.2.1 72 = .ok (.iconst (-1), 1) := by decide +kernel
theorem dX6_count_73 : decode M_X6_count.2.1 73 = .ok (.ireturn, 1) := by decide +kernel
theorem dJ6_bitCount_0f7a4_0 : decode M_J6_bitCount_0f7a4.2.1 0 = .ok (.iload_n 0, 1) := by decide +kernel
theorem dJ6_bitCount_0f7a4_1 : decode M_J6_bitCount_0f7a4.2.1 1 = .ok (.iload_n 0, 1) := by decide +kernel
theorem dJ6_bitCount_0f7a4_2 : decode M_J6_bitCount_0f7a4.2.1 2 = .ok (.iconst 1, 1) := by decide +kernel
theorem dJ6_bitCount_0f7a4_3 : decode M_J6_bitCount_0f7a4.2.1 3 = .ok (.iushr, 1) := by decide +kernel
theorem dJ6_bitCount_0f7a4_4 : decode M_J6_bitCount_0f7a4.2.1 4 = .ok (.ldc_w 265, 3) := by decide +kernel
theorem dJ6_bitCount_0f7a4_7 : decode M_J6_bitCount_0f7a4.2.1 7 = .ok (.iand, 1) := by decide +kernel
theorem dJ6_bitCount_0f7a4_8 : decode M_J6_bitCount_0f7a4.2.1 8 = .ok (.isub, 1) := by decide +kernel
theorem dJ6_bitCount_0f7a4_9 : decode M_J6_bitCount_0f7a4.2.1 9 = .ok (.istore_n 0, 1) := by decide +kernel
theorem dJ6_bitCount_0f7a4_10 : decode M_J6_bitCount_0f7a4.2.1 10 = .ok (.iload_n 0, 1) := by decide +kernel
theorem dJ6_bitCount_0f7a4_11 : decode M_J6_bitCount_0f7a4.2.1 11 = .ok (.ldc_w 266, 3) := by decide +kernel
theorem dJ6_bitCount_0f7a4_14 : decode M_J6_bitCount_0f7a4.2.1 14 = .ok (.iand, 1) := by decide +kernel
theorem dJ6_bitCount_0f7a4_15 : decode M_J6_bitCount_0f7a4.2.1 15 = .ok (.iload_n 0, 1) := by decide +kernel
theorem dJ6_bitCount_0f7a4_16 : decode M_J6_bitCount_0f7a4.2.1 16 = .ok (.iconst 2, 1) := by decide +kernel
theorem dJ6_bitCount_0f7a4_17 : decode M_J6_bitCount_0f7a4.2.1 17 = .ok (.iushr, 1) := by decide +kernel
theorem dJ6_bitCount_0f7a4_18 : decode M_J6_bitCount_0f7a4.2.1 18 = .ok (.ldc_w 266, 3) := by decide +kernel
theorem dJ6_bitCount_0f7a4_21 : decode M_J6_bitCount_0f7a4.2.1 21 = .ok (.iand, 1) := by decide +kernel
theorem dJ6_bitCount_0f7a4_22 : decode M_J6_bitCount_0f7a4.2.1 22 = .ok (.iadd, 1) := by decide +kernel
theorem dJ6_bitCount_0f7a4_23 : decode M_J6_bitCount_0f7a4.2.1 23 = .ok (.istore_n 0, 1) := by decide +kernel
theorem dJ6_bitCount_0f7a4_24 : decode M_J6_bitCount_0f7a4.2.1 24 = .ok (.iload_n 0, 1) := by decide +kernel
theorem dJ6_bitCount_0f7a4_25 : decode M_J6_bitCount_0f7a4.2.1 25 = .ok (.iload_n 0, 1) := by decide +kernel
theorem dJ6_bitCount_0f7a4_26 : decode M_J6_bitCount_0f7a4.2.1 26 = .ok (.iconst 4, 1) := by decide +kernel
theorem dJ6_bitCount_0f7a4_27 : decode M_J6_bitCount_0f7a4.2.1 27 = .ok (.iushr, 1) := by decide +kernel
theorem dJ6_bitCount_0f7a4_28 : decode M_J6_bitCount_0f7a4.2.1 28 = .ok (.iadd, 1) := by decide +kernel
theorem dJ6_bitCount_0f7a4_29 : decode M_J6_bitCount_0f7a4.2.1 29 = .ok (.ldc_w 267, 3) := by decide +kernel
theorem dJ6_bitCount_0f7a4_32 : decode M_J6_bitCount_0f7a4.2.1 32 = .ok (.iand, 1) := by decide +kernel
theorem dJ6_bitCount_0f7a4_33 : decode M_J6_bitCount_0f7a4.2.1 33 = .ok (.istore_n 0, 1) := by decide +kernel
theorem dJ6_bitCount_0f7a4_34 : decode M_J6_bitCount_0f7a4.2.1 34 = .ok (.iload_n 0, 1) := by decide +kernel
theorem dJ6_bitCount_0f7a4_35 : decode M_J6_bitCount_0f7a4.2.1 35 = .ok (.iload_n 0, 1) := by decide +kernel
theorem dJ6_bitCount_0f7a4_36 : decode M_J6_bitCount_0f7a4.2.1 36 = .ok (.bipush 8, 2) := by decide +kernel
theorem dJ6_bitCount_0f7a4_38 : decode M_J6_bitCount_0f7a4.2.1 38 = .ok (.iushr, 1) := by decide +kernel
theorem dJ6_bitCount_0f7a4_39 : decode M_J6_bitCount_0f7a4.2.1 39 = .ok (.iadd, 1) := by decide +kernel
theorem dJ6_bitCount_0f7a4_40 : decode M_J6_bitCount_0f7a4.2.1 40 = .ok (.istore_n 0, 1) := by decide +kernel
theorem dJ6_bitCount_0f7a4_41 : decode M_J6_bitCount_0f7a4.2.1 41 = .ok (.iload_n 0, 1) := by decide +kernel
theorem dJ6_bitCount_0f7a4_42 : decode M_J6_bitCount_0f7a4.2.1 42 = .ok (.iload_n 0, 1) := by decide +kernel
theorem dJ6_bitCount_0f7a4_43 : decode M_J6_bitCount_0f7a4.2.1 43 = .ok (.bipush 16, 2) := by decide +kernel
theorem dJ6_bitCount_0f7a4_45 : decode M_J6_bitCount_0f7a4.2.1 45 = .ok (.iushr, 1) := by decide +kernel
theorem dJ6_bitCount_0f7a4_46 : decode M_J6_bitCount_0f7a4.2.1 46 = .ok (.iadd, 1) := by decide +kernel
theorem dJ6_bitCount_0f7a4_47 : decode M_J6_bitCount_0f7a4.2.1 47 = .ok (.istore_n 0, 1) := by decide +kernel
theorem dJ6_bitCount_0f7a4_48 : decode M_J6_bitCount_0f7a4.2.1 48 = .ok (.iload_n 0, 1) := by decide +kernel
theorem dJ6_bitCount_0f7a4_49 : decode M_J6_bitCount_0f7a4.2.1 49 = .ok (.bipush 63, 2) := by decide +kernel
theorem dJ6_bitCount_0f7a4_51 : decode M_J6_bitCount_0f7a4.2.1 51 = .ok (.iand, 1) := by decide +kernel
theorem dJ6_bitCount_0f7a4_52 : decode M_J6_bitCount_0f7a4.2.1 52 = .ok (.ireturn, 1) := by decide +kernel
theorem dL_law_0 : decode code 0 = .ok (.new 7, 3) := by decide +kernel
theorem dL_law_3 : decode code 3 = .ok (.dup, 1) := by decide +kernel
theorem dL_law_4 : decode code 4 = .ok (.invokespecial 9, 3) := by decide +kernel
theorem dL_law_7 : decode code 7 = .ok (.astore_n 1, 1) := by decide +kernel
theorem dL_law_8 : decode code 8 = .ok (.new 10, 3) := by decide +kernel
theorem dL_law_11 : decode code 11 = .ok (.dup, 1) := by decide +kernel
theorem dL_law_12 : decode code 12 = .ok (.invokespecial 12, 3) := by decide +kernel
theorem dL_law_15 : decode code 15 = .ok (.astore_n 2, 1) := by decide +kernel
theorem dL_law_16 : decode code 16 = .ok (.iconst 0, 1) := by decide +kernel
theorem dL_law_17 : decode code 17 = .ok (.istore_n 3, 1) := by decide +kernel
theorem dL_law_18 : decode code 18 = .ok (.iload_n 3, 1) := by decide +kernel
theorem dL_law_19 : decode code 19 = .ok (.aload_n 0, 1) := by decide +kernel
theorem dL_law_20 : decode code 20 = .ok (.arraylength, 1) := by decide +kernel
theorem dL_law_21 : decode code 21 = .ok (.iconst 4, 1) := by decide +kernel
theorem dL_law_22 : decode code 22 = .ok (.isub, 1) := by decide +kernel
theorem dL_law_23 : decode code 23 = .ok (.if_icmp .gt 623, 3) := by decide +kernel
theorem dL_law_26 : decode code 26 = .ok (.aload_n 0, 1) := by decide +kernel
theorem dL_law_27 : decode code 27 = .ok (.iload_n 3, 1) := by decide +kernel
theorem dL_law_28 : decode code 28 = .ok (.iaload, 1) := by decide +kernel
theorem dL_law_29 : decode code 29 = .ok (.bipush 31, 2) := by decide +kernel
theorem dL_law_31 : decode code 31 = .ok (.iand, 1) := by decide +kernel
theorem dL_law_32 : decode code 32 = .ok (.tableswitch 608 0 19 #[96, 119, 132, 145, 188, 211, 244, 287, 300, 333, 366, 379, 413, 457, 490, 513, 526, 539, 562, 585], 96) := by decide +kernel
theorem dL_law_128 : decode code 128 = .ok (.aload_n 1, 1) := by decide +kernel
theorem dL_law_129 : decode code 129 = .ok (.aload_n 0, 1) := by decide +kernel
theorem dL_law_130 : decode code 130 = .ok (.iload_n 3, 1) := by decide +kernel
theorem dL_law_131 : decode code 131 = .ok (.iconst 1, 1) := by decide +kernel
theorem dL_law_132 : decode code 132 = .ok (.iadd, 1) := by decide +kernel
theorem dL_law_133 : decode code 133 = .ok (.iaload, 1) := by decide +kernel
theorem dL_law_134 : decode code 134 = .ok (.invokevirtual 13, 3) := by decide +kernel
theorem dL_law_137 : decode code 137 = .ok (.aload_n 2, 1) := by decide +kernel
theorem dL_law_138 : decode code 138 = .ok (.aload_n 0, 1) := by decide +kernel
theorem dL_law_139 : decode code 139 = .ok (.iload_n 3, 1) := by decide +kernel
theorem dL_law_140 : decode code 140 = .ok (.iconst 1, 1) := by decide +kernel
theorem dL_law_141 : decode code 141 = .ok (.iadd, 1) := by decide +kernel
theorem dL_law_142 : decode code 142 = .ok (.iaload, 1) := by decide +kernel
theorem dL_law_143 : decode code 143 = .ok (.invokevirtual 17, 3) := by decide +kernel
theorem dL_law_146 : decode code 146 = .ok (.if_icmp .eq 494, 3) := by decide +kernel
theorem dL_law_149 : decode code 149 = .ok (.iconst 0, 1) := by decide +kernel
theorem dL_law_150 : decode code 150 = .ok (.ireturn, 1) := by decide +kernel
theorem dL_law_151 : decode code 151 = .ok (.aload_n 1, 1) := by decide +kernel
theorem dL_law_152 : decode code 152 = .ok (.invokevirtual 18, 3) := by decide +kernel
theorem dL_law_155 : decode code 155 = .ok (.aload_n 2, 1) := by decide +kernel
theorem dL_law_156 : decode code 156 = .ok (.invokevirtual 22, 3) := by decide +kernel
theorem dL_law_159 : decode code 159 = .ok (.if_icmp .eq 481, 3) := by decide +kernel
theorem dL_law_162 : decode code 162 = .ok (.iconst 0, 1) := by decide +kernel
theorem dL_law_163 : decode code 163 = .ok (.ireturn, 1) := by decide +kernel
theorem dL_law_164 : decode code 164 = .ok (.aload_n 1, 1) := by decide +kernel
theorem dL_law_165 : decode code 165 = .ok (.invokevirtual 23, 3) := by decide +kernel
theorem dL_law_168 : decode code 168 = .ok (.aload_n 2, 1) := by decide +kernel
theorem dL_law_169 : decode code 169 = .ok (.invokevirtual 26, 3) := by decide +kernel
theorem dL_law_172 : decode code 172 = .ok (.if_icmp .eq 468, 3) := by decide +kernel
theorem dL_law_175 : decode code 175 = .ok (.iconst 0, 1) := by decide +kernel
theorem dL_law_176 : decode code 176 = .ok (.ireturn, 1) := by decide +kernel
theorem dL_law_177 : decode code 177 = .ok (.aload_n 1, 1) := by decide +kernel
theorem dL_law_178 : decode code 178 = .ok (.aload_n 0, 1) := by decide +kernel
theorem dL_law_179 : decode code 179 = .ok (.iload_n 3, 1) := by decide +kernel
theorem dL_law_180 : decode code 180 = .ok (.iconst 1, 1) := by decide +kernel
theorem dL_law_181 : decode code 181 = .ok (.iadd, 1) := by decide +kernel
theorem dL_law_182 : decode code 182 = .ok (.iaload, 1) := by decide +kernel
theorem dL_law_183 : decode code 183 = .ok (.aload_n 0, 1) := by decide +kernel
theorem dL_law_184 : decode code 184 = .ok (.iload_n 3, 1) := by decide +kernel
theorem dL_law_185 : decode code 185 = .ok (.iconst 2, 1) := by decide +kernel
theorem dL_law_186 : decode code 186 = .ok (.iadd, 1) := by decide +kernel
theorem dL_law_187 : decode code 187 = .ok (.iaload, 1) := by decide +kernel
theorem dL_law_188 : decode code 188 = .ok (.aload_n 0, 1) := by decide +kernel
theorem dL_law_189 : decode code 189 = .ok (.iload_n 3, 1) := by decide +kernel
theorem dL_law_190 : decode code 190 = .ok (.iconst 3, 1) := by decide +kernel
theorem dL_law_191 : decode code 191 = .ok (.iadd, 1) := by decide +kernel
theorem dL_law_192 : decode code 192 = .ok (.iaload, 1) := by decide +kernel
theorem dL_law_193 : decode code 193 = .ok (.invokevirtual 27, 3) := by decide +kernel
theorem dL_law_196 : decode code 196 = .ok (.aload_n 2, 1) := by decide +kernel
theorem dL_law_197 : decode code 197 = .ok (.aload_n 0, 1) := by decide +kernel
theorem dL_law_198 : decode code 198 = .ok (.iload_n 3, 1) := by decide +kernel
theorem dL_law_199 : decode code 199 = .ok (.iconst 1, 1) := by decide +kernel
theorem dL_law_200 : decode code 200 = .ok (.iadd, 1) := by decide +kernel
theorem dL_law_201 : decode code 201 = .ok (.iaload, 1) := by decide +kernel
theorem dL_law_202 : decode code 202 = .ok (.aload_n 0, 1) := by decide +kernel
theorem dL_law_203 : decode code 203 = .ok (.iload_n 3, 1) := by decide +kernel
theorem dL_law_204 : decode code 204 = .ok (.iconst 2, 1) := by decide +kernel
theorem dL_law_205 : decode code 205 = .ok (.iadd, 1) := by decide +kernel
theorem dL_law_206 : decode code 206 = .ok (.iaload, 1) := by decide +kernel
theorem dL_law_207 : decode code 207 = .ok (.aload_n 0, 1) := by decide +kernel
theorem dL_law_208 : decode code 208 = .ok (.iload_n 3, 1) := by decide +kernel
theorem dL_law_209 : decode code 209 = .ok (.iconst 3, 1) := by decide +kernel
theorem dL_law_210 : decode code 210 = .ok (.iadd, 1) := by decide +kernel
theorem dL_law_211 : decode code 211 = .ok (.iaload, 1) := by decide +kernel
theorem dL_law_212 : decode code 212 = .ok (.invokevirtual 31, 3) := by decide +kernel
theorem dL_law_215 : decode code 215 = .ok (.if_icmp .eq 425, 3) := by decide +kernel
theorem dL_law_218 : decode code 218 = .ok (.iconst 0, 1) := by decide +kernel
theorem dL_law_219 : decode code 219 = .ok (.ireturn, 1) := by decide +kernel
theorem dL_law_220 : decode code 220 = .ok (.aload_n 1, 1) := by decide +kernel
theorem dL_law_221 : decode code 221 = .ok (.aload_n 0, 1) := by decide +kernel
theorem dL_law_222 : decode code 222 = .ok (.iload_n 3, 1) := by decide +kernel
theorem dL_law_223 : decode code 223 = .ok (.iconst 1, 1) := by decide +kernel
theorem dL_law_224 : decode code 224 = .ok (.iadd, 1) := by decide +kernel
theorem dL_law_225 : decode code 225 = .ok (.iaload, 1) := by decide +kernel
theorem dL_law_226 : decode code 226 = .ok (.invokevirtual 32, 3) := by decide +kernel
theorem dL_law_229 : decode code 229 = .ok (.aload_n 2, 1) := by decide +kernel
theorem dL_law_230 : decode code 230 = .ok (.aload_n 0, 1) := by decide +kernel
theorem dL_law_231 : decode code 231 = .ok (.iload_n 3, 1) := by decide +kernel
theorem dL_law_232 : decode code 232 = .ok (.iconst 1, 1) := by decide +kernel
theorem dL_law_233 : decode code 233 = .ok (.iadd, 1) := by decide +kernel
theorem dL_law_234 : decode code 234 = .ok (.iaload, 1) := by decide +kernel
theorem dL_law_235 : decode code 235 = .ok (.invokevirtual 35, 3) := by decide +kernel
theorem dL_law_238 : decode code 238 = .ok (.if_icmp .eq 402, 3) := by decide +kernel
theorem dL_law_241 : decode code 241 = .ok (.iconst 0, 1) := by decide +kernel
theorem dL_law_242 : decode code 242 = .ok (.ireturn, 1) := by decide +kernel
theorem dL_law_243 : decode code 243 = .ok (.aload_n 1, 1) := by decide +kernel
theorem dL_law_244 : decode code 244 = .ok (.aload_n 0, 1) := by decide +kernel
theorem dL_law_245 : decode code 245 = .ok (.iload_n 3, 1) := by decide +kernel
theorem dL_law_246 : decode code 246 = .ok (.iconst 1, 1) := by decide +kernel
theorem dL_law_247 : decode code 247 = .ok (.iadd, 1) := by decide +kernel
theorem dL_law_248 : decode code 248 = .ok (.iaload, 1) := by decide +kernel
theorem dL_law_249 : decode code 249 = .ok (.aload_n 0, 1) := by decide +kernel
theorem dL_law_250 : decode code 250 = .ok (.iload_n 3, 1) := by decide +kernel
theorem dL_law_251 : decode code 251 = .ok (.iconst 2, 1) := by decide +kernel
theorem dL_law_252 : decode code 252 = .ok (.iadd, 1) := by decide +kernel
theorem dL_law_253 : decode code 253 = .ok (.iaload, 1) := by decide +kernel
theorem dL_law_254 : decode code 254 = .ok (.invokevirtual 36, 3) := by decide +kernel
theorem dL_law_257 : decode code 257 = .ok (.aload_n 2, 1) := by decide +kernel
theorem dL_law_258 : decode code 258 = .ok (.aload_n 0, 1) := by decide +kernel
theorem dL_law_259 : decode code 259 = .ok (.iload_n 3, 1) := by decide +kernel
theorem dL_law_260 : decode code 260 = .ok (.iconst 1, 1) := by decide +kernel
theorem dL_law_261 : decode code 261 = .ok (.iadd, 1) := by decide +kernel
theorem dL_law_262 : decode code 262 = .ok (.iaload, 1) := by decide +kernel
theorem dL_law_263 : decode code 263 = .ok (.aload_n 0, 1) := by decide +kernel
theorem dL_law_264 : decode code 264 = .ok (.iload_n 3, 1) := by decide +kernel
theorem dL_law_265 : decode code 265 = .ok (.iconst 2, 1) := by decide +kernel
theorem dL_law_266 : decode code 266 = .ok (.iadd, 1) := by decide +kernel
theorem dL_law_267 : decode code 267 = .ok (.iaload, 1) := by decide +kernel
theorem dL_law_268 : decode code 268 = .ok (.invokevirtual 40, 3) := by decide +kernel
theorem dL_law_271 : decode code 271 = .ok (.if_icmp .eq 369, 3) := by decide +kernel
theorem dL_law_274 : decode code 274 = .ok (.iconst 0, 1) := by decide +kernel
theorem dL_law_275 : decode code 275 = .ok (.ireturn, 1) := by decide +kernel
theorem dL_law_276 : decode code 276 = .ok (.aload_n 1, 1) := by decide +kernel
theorem dL_law_277 : decode code 277 = .ok (.aload_n 0, 1) := by decide +kernel
theorem dL_law_278 : decode code 278 = .ok (.iload_n 3, 1) := by decide +kernel
theorem dL_law_279 : decode code 279 = .ok (.iconst 1, 1) := by decide +kernel
theorem dL_law_280 : decode code 280 = .ok (.iadd, 1) := by decide +kernel
theorem dL_law_281 : decode code 281 = .ok (.iaload, 1) := by decide +kernel
theorem dL_law_282 : decode code 282 = .ok (.aload_n 0, 1) := by decide +kernel
theorem dL_law_283 : decode code 283 = .ok (.iload_n 3, 1) := by decide +kernel
theorem dL_law_284 : decode code 284 = .ok (.iconst 2, 1) := by decide +kernel
theorem dL_law_285 : decode code 285 = .ok (.iadd, 1) := by decide +kernel
theorem dL_law_286 : decode code 286 = .ok (.iaload, 1) := by decide +kernel
theorem dL_law_287 : decode code 287 = .ok (.aload_n 0, 1) := by decide +kernel
theorem dL_law_288 : decode code 288 = .ok (.iload_n 3, 1) := by decide +kernel
theorem dL_law_289 : decode code 289 = .ok (.iconst 3, 1) := by decide +kernel
theorem dL_law_290 : decode code 290 = .ok (.iadd, 1) := by decide +kernel
theorem dL_law_291 : decode code 291 = .ok (.iaload, 1) := by decide +kernel
theorem dL_law_292 : decode code 292 = .ok (.invokevirtual 41, 3) := by decide +kernel
theorem dL_law_295 : decode code 295 = .ok (.aload_n 2, 1) := by decide +kernel
theorem dL_law_296 : decode code 296 = .ok (.aload_n 0, 1) := by decide +kernel
theorem dL_law_297 : decode code 297 = .ok (.iload_n 3, 1) := by decide +kernel
theorem dL_law_298 : decode code 298 = .ok (.iconst 1, 1) := by decide +kernel
theorem dL_law_299 : decode code 299 = .ok (.iadd, 1) := by decide +kernel
theorem dL_law_300 : decode code 300 = .ok (.iaload, 1) := by decide +kernel
theorem dL_law_301 : decode code 301 = .ok (.aload_n 0, 1) := by decide +kernel
theorem dL_law_302 : decode code 302 = .ok (.iload_n 3, 1) := by decide +kernel
theorem dL_law_303 : decode code 303 = .ok (.iconst 2, 1) := by decide +kernel
theorem dL_law_304 : decode code 304 = .ok (.iadd, 1) := by decide +kernel
theorem dL_law_305 : decode code 305 = .ok (.iaload, 1) := by decide +kernel
theorem dL_law_306 : decode code 306 = .ok (.aload_n 0, 1) := by decide +kernel
theorem dL_law_307 : decode code 307 = .ok (.iload_n 3, 1) := by decide +kernel
theorem dL_law_308 : decode code 308 = .ok (.iconst 3, 1) := by decide +kernel
theorem dL_law_309 : decode code 309 = .ok (.iadd, 1) := by decide +kernel
theorem dL_law_310 : decode code 310 = .ok (.iaload, 1) := by decide +kernel
theorem dL_law_311 : decode code 311 = .ok (.invokevirtual 44, 3) := by decide +kernel
theorem dL_law_314 : decode code 314 = .ok (.if_icmp .eq 326, 3) := by decide +kernel
theorem dL_law_317 : decode code 317 = .ok (.iconst 0, 1) := by decide +kernel
theorem dL_law_318 : decode code 318 = .ok (.ireturn, 1) := by decide +kernel
theorem dL_law_319 : decode code 319 = .ok (.aload_n 1, 1) := by decide +kernel
theorem dL_law_320 : decode code 320 = .ok (.invokevirtual 45, 3) := by decide +kernel
theorem dL_law_323 : decode code 323 = .ok (.aload_n 2, 1) := by decide +kernel
theorem dL_law_324 : decode code 324 = .ok (.invokevirtual 48, 3) := by decide +kernel
theorem dL_law_327 : decode code 327 = .ok (.if_icmp .eq 313, 3) := by decide +kernel
theorem dL_law_330 : decode code 330 = .ok (.iconst 0, 1) := by decide +kernel
theorem dL_law_331 : decode code 331 = .ok (.ireturn, 1) := by decide +kernel
theorem dL_law_332 : decode code 332 = .ok (.aload_n 1, 1) := by decide +kernel
theorem dL_law_333 : decode code 333 = .ok (.aload_n 0, 1) := by decide +kernel
theorem dL_law_334 : decode code 334 = .ok (.iload_n 3, 1) := by decide +kernel
theorem dL_law_335 : decode code 335 = .ok (.iconst 1, 1) := by decide +kernel
theorem dL_law_336 : decode code 336 = .ok (.iadd, 1) := by decide +kernel
theorem dL_law_337 : decode code 337 = .ok (.iaload, 1) := by decide +kernel
theorem dL_law_338 : decode code 338 = .ok (.aload_n 0, 1) := by decide +kernel
theorem dL_law_339 : decode code 339 = .ok (.iload_n 3, 1) := by decide +kernel
theorem dL_law_340 : decode code 340 = .ok (.iconst 2, 1) := by decide +kernel
theorem dL_law_341 : decode code 341 = .ok (.iadd, 1) := by decide +kernel
theorem dL_law_342 : decode code 342 = .ok (.iaload, 1) := by decide +kernel
theorem dL_law_343 : decode code 343 = .ok (.invokevirtual 49, 3) := by decide +kernel
theorem dL_law_346 : decode code 346 = .ok (.aload_n 2, 1) := by decide +kernel
theorem dL_law_347 : decode code 347 = .ok (.aload_n 0, 1) := by decide +kernel
theorem dL_law_348 : decode code 348 = .ok (.iload_n 3, 1) := by decide +kernel
theorem dL_law_349 : decode code 349 = .ok (.iconst 1, 1) := by decide +kernel
theorem dL_law_350 : decode code 350 = .ok (.iadd, 1) := by decide +kernel
theorem dL_law_351 : decode code 351 = .ok (.iaload, 1) := by decide +kernel
theorem dL_law_352 : decode code 352 = .ok (.aload_n 0, 1) := by decide +kernel
theorem dL_law_353 : decode code 353 = .ok (.iload_n 3, 1) := by decide +kernel
theorem dL_law_354 : decode code 354 = .ok (.iconst 2, 1) := by decide +kernel
theorem dL_law_355 : decode code 355 = .ok (.iadd, 1) := by decide +kernel
theorem dL_law_356 : decode code 356 = .ok (.iaload, 1) := by decide +kernel
theorem dL_law_357 : decode code 357 = .ok (.invokevirtual 52, 3) := by decide +kernel
theorem dL_law_360 : decode code 360 = .ok (.if_icmp .eq 280, 3) := by decide +kernel
theorem dL_law_363 : decode code 363 = .ok (.iconst 0, 1) := by decide +kernel
theorem dL_law_364 : decode code 364 = .ok (.ireturn, 1) := by decide +kernel
theorem dL_law_365 : decode code 365 = .ok (.aload_n 1, 1) := by decide +kernel
theorem dL_law_366 : decode code 366 = .ok (.aload_n 0, 1) := by decide +kernel
theorem dL_law_367 : decode code 367 = .ok (.iload_n 3, 1) := by decide +kernel
theorem dL_law_368 : decode code 368 = .ok (.iconst 1, 1) := by decide +kernel
theorem dL_law_369 : decode code 369 = .ok (.iadd, 1) := by decide +kernel
theorem dL_law_370 : decode code 370 = .ok (.iaload, 1) := by decide +kernel
theorem dL_law_371 : decode code 371 = .ok (.aload_n 0, 1) := by decide +kernel
theorem dL_law_372 : decode code 372 = .ok (.iload_n 3, 1) := by decide +kernel
theorem dL_law_373 : decode code 373 = .ok (.iconst 2, 1) := by decide +kernel
theorem dL_law_374 : decode code 374 = .ok (.iadd, 1) := by decide +kernel
theorem dL_law_375 : decode code 375 = .ok (.iaload, 1) := by decide +kernel
theorem dL_law_376 : decode code 376 = .ok (.invokevirtual 53, 3) := by decide +kernel
theorem dL_law_379 : decode code 379 = .ok (.aload_n 2, 1) := by decide +kernel
theorem dL_law_380 : decode code 380 = .ok (.aload_n 0, 1) := by decide +kernel
theorem dL_law_381 : decode code 381 = .ok (.iload_n 3, 1) := by decide +kernel
theorem dL_law_382 : decode code 382 = .ok (.iconst 1, 1) := by decide +kernel
theorem dL_law_383 : decode code 383 = .ok (.iadd, 1) := by decide +kernel
theorem dL_law_384 : decode code 384 = .ok (.iaload, 1) := by decide +kernel
theorem dL_law_385 : decode code 385 = .ok (.aload_n 0, 1) := by decide +kernel
theorem dL_law_386 : decode code 386 = .ok (.iload_n 3, 1) := by decide +kernel
theorem dL_law_387 : decode code 387 = .ok (.iconst 2, 1) := by decide +kernel
theorem dL_law_388 : decode code 388 = .ok (.iadd, 1) := by decide +kernel
theorem dL_law_389 : decode code 389 = .ok (.iaload, 1) := by decide +kernel
theorem dL_law_390 : decode code 390 = .ok (.invokevirtual 56, 3) := by decide +kernel
theorem dL_law_393 : decode code 393 = .ok (.if_icmp .eq 247, 3) := by decide +kernel
theorem dL_law_396 : decode code 396 = .ok (.iconst 0, 1) := by decide +kernel
theorem dL_law_397 : decode code 397 = .ok (.ireturn, 1) := by decide +kernel
theorem dL_law_398 : decode code 398 = .ok (.aload_n 1, 1) := by decide +kernel
theorem dL_law_399 : decode code 399 = .ok (.invokevirtual 57, 3) := by decide +kernel
theorem dL_law_402 : decode code 402 = .ok (.aload_n 2, 1) := by decide +kernel
theorem dL_law_403 : decode code 403 = .ok (.invokevirtual 60, 3) := by decide +kernel
theorem dL_law_406 : decode code 406 = .ok (.if_icmp .eq 234, 3) := by decide +kernel
theorem dL_law_409 : decode code 409 = .ok (.iconst 0, 1) := by decide +kernel
theorem dL_law_410 : decode code 410 = .ok (.ireturn, 1) := by decide +kernel
theorem dL_law_411 : decode code 411 = .ok (.aload_n 1, 1) := by decide +kernel
theorem dL_law_412 : decode code 412 = .ok (.aload_n 0, 1) := by decide +kernel
theorem dL_law_413 : decode code 413 = .ok (.iload_n 3, 1) := by decide +kernel
theorem dL_law_414 : decode code 414 = .ok (.iconst 1, 1) := by decide +kernel
theorem dL_law_415 : decode code 415 = .ok (.iadd, 1) := by decide +kernel
theorem dL_law_416 : decode code 416 = .ok (.iaload, 1) := by decide +kernel
theorem dL_law_417 : decode code 417 = .ok (.aload_n 0, 1) := by decide +kernel
theorem dL_law_418 : decode code 418 = .ok (.iload_n 3, 1) := by decide +kernel
theorem dL_law_419 : decode code 419 = .ok (.iconst 2, 1) := by decide +kernel
theorem dL_law_420 : decode code 420 = .ok (.iadd, 1) := by decide +kernel
theorem dL_law_421 : decode code 421 = .ok (.iaload, 1) := by decide +kernel
theorem dL_law_422 : decode code 422 = .ok (.invokevirtual 61, 3) := by decide +kernel
theorem dL_law_425 : decode code 425 = .ok (.aload_n 2, 1) := by decide +kernel
theorem dL_law_426 : decode code 426 = .ok (.aload_n 0, 1) := by decide +kernel
theorem dL_law_427 : decode code 427 = .ok (.iload_n 3, 1) := by decide +kernel
theorem dL_law_428 : decode code 428 = .ok (.iconst 1, 1) := by decide +kernel
theorem dL_law_429 : decode code 429 = .ok (.iadd, 1) := by decide +kernel
theorem dL_law_430 : decode code 430 = .ok (.iaload, 1) := by decide +kernel
theorem dL_law_431 : decode code 431 = .ok (.aload_n 0, 1) := by decide +kernel
theorem dL_law_432 : decode code 432 = .ok (.iload_n 3, 1) := by decide +kernel
theorem dL_law_433 : decode code 433 = .ok (.iconst 2, 1) := by decide +kernel
theorem dL_law_434 : decode code 434 = .ok (.iadd, 1) := by decide +kernel
theorem dL_law_435 : decode code 435 = .ok (.iaload, 1) := by decide +kernel
theorem dL_law_436 : decode code 436 = .ok (.invokevirtual 65, 3) := by decide +kernel
theorem dL_law_439 : decode code 439 = .ok (.lcmp, 1) := by decide +kernel
theorem dL_law_440 : decode code 440 = .ok (.ifCond .eq 200, 3) := by decide +kernel
theorem dL_law_443 : decode code 443 = .ok (.iconst 0, 1) := by decide +kernel
theorem dL_law_444 : decode code 444 = .ok (.ireturn, 1) := by decide +kernel
theorem dL_law_445 : decode code 445 = .ok (.aload_n 1, 1) := by decide +kernel
theorem dL_law_446 : decode code 446 = .ok (.aload_n 0, 1) := by decide +kernel
theorem dL_law_447 : decode code 447 = .ok (.iload_n 3, 1) := by decide +kernel
theorem dL_law_448 : decode code 448 = .ok (.iconst 1, 1) := by decide +kernel
theorem dL_law_449 : decode code 449 = .ok (.iadd, 1) := by decide +kernel
theorem dL_law_450 : decode code 450 = .ok (.iaload, 1) := by decide +kernel
theorem dL_law_451 : decode code 451 = .ok (.aload_n 0, 1) := by decide +kernel
theorem dL_law_452 : decode code 452 = .ok (.iload_n 3, 1) := by decide +kernel
theorem dL_law_453 : decode code 453 = .ok (.iconst 2, 1) := by decide +kernel
theorem dL_law_454 : decode code 454 = .ok (.iadd, 1) := by decide +kernel
theorem dL_law_455 : decode code 455 = .ok (.iaload, 1) := by decide +kernel
theorem dL_law_456 : decode code 456 = .ok (.aload_n 0, 1) := by decide +kernel
theorem dL_law_457 : decode code 457 = .ok (.iload_n 3, 1) := by decide +kernel
theorem dL_law_458 : decode code 458 = .ok (.iconst 3, 1) := by decide +kernel
theorem dL_law_459 : decode code 459 = .ok (.iadd, 1) := by decide +kernel
theorem dL_law_460 : decode code 460 = .ok (.iaload, 1) := by decide +kernel
theorem dL_law_461 : decode code 461 = .ok (.invokevirtual 66, 3) := by decide +kernel
theorem dL_law_464 : decode code 464 = .ok (.aload_n 2, 1) := by decide +kernel
theorem dL_law_465 : decode code 465 = .ok (.aload_n 0, 1) := by decide +kernel
theorem dL_law_466 : decode code 466 = .ok (.iload_n 3, 1) := by decide +kernel
theorem dL_law_467 : decode code 467 = .ok (.iconst 1, 1) := by decide +kernel
theorem dL_law_468 : decode code 468 = .ok (.iadd, 1) := by decide +kernel
theorem dL_law_469 : decode code 469 = .ok (.iaload, 1) := by decide +kernel
theorem dL_law_470 : decode code 470 = .ok (.aload_n 0, 1) := by decide +kernel
theorem dL_law_471 : decode code 471 = .ok (.iload_n 3, 1) := by decide +kernel
theorem dL_law_472 : decode code 472 = .ok (.iconst 2, 1) := by decide +kernel
theorem dL_law_473 : decode code 473 = .ok (.iadd, 1) := by decide +kernel
theorem dL_law_474 : decode code 474 = .ok (.iaload, 1) := by decide +kernel
theorem dL_law_475 : decode code 475 = .ok (.aload_n 0, 1) := by decide +kernel
theorem dL_law_476 : decode code 476 = .ok (.iload_n 3, 1) := by decide +kernel
theorem dL_law_477 : decode code 477 = .ok (.iconst 3, 1) := by decide +kernel
theorem dL_law_478 : decode code 478 = .ok (.iadd, 1) := by decide +kernel
theorem dL_law_479 : decode code 479 = .ok (.iaload, 1) := by decide +kernel
theorem dL_law_480 : decode code 480 = .ok (.invokevirtual 70, 3) := by decide +kernel
theorem dL_law_483 : decode code 483 = .ok (.lcmp, 1) := by decide +kernel
theorem dL_law_484 : decode code 484 = .ok (.ifCond .eq 156, 3) := by decide +kernel
theorem dL_law_487 : decode code 487 = .ok (.iconst 0, 1) := by decide +kernel
theorem dL_law_488 : decode code 488 = .ok (.ireturn, 1) := by decide +kernel
theorem dL_law_489 : decode code 489 = .ok (.aload_n 1, 1) := by decide +kernel
theorem dL_law_490 : decode code 490 = .ok (.aload_n 0, 1) := by decide +kernel
theorem dL_law_491 : decode code 491 = .ok (.iload_n 3, 1) := by decide +kernel
theorem dL_law_492 : decode code 492 = .ok (.iconst 1, 1) := by decide +kernel
theorem dL_law_493 : decode code 493 = .ok (.iadd, 1) := by decide +kernel
theorem dL_law_494 : decode code 494 = .ok (.iaload, 1) := by decide +kernel
theorem dL_law_495 : decode code 495 = .ok (.aload_n 0, 1) := by decide +kernel
theorem dL_law_496 : decode code 496 = .ok (.iload_n 3, 1) := by decide +kernel
theorem dL_law_497 : decode code 497 = .ok (.iconst 2, 1) := by decide +kernel
theorem dL_law_498 : decode code 498 = .ok (.iadd, 1) := by decide +kernel
theorem dL_law_499 : decode code 499 = .ok (.iaload, 1) := by decide +kernel
theorem dL_law_500 : decode code 500 = .ok (.invokevirtual 71, 3) := by decide +kernel
theorem dL_law_503 : decode code 503 = .ok (.aload_n 2, 1) := by decide +kernel
theorem dL_law_504 : decode code 504 = .ok (.aload_n 0, 1) := by decide +kernel
theorem dL_law_505 : decode code 505 = .ok (.iload_n 3, 1) := by decide +kernel
theorem dL_law_506 : decode code 506 = .ok (.iconst 1, 1) := by decide +kernel
theorem dL_law_507 : decode code 507 = .ok (.iadd, 1) := by decide +kernel
theorem dL_law_508 : decode code 508 = .ok (.iaload, 1) := by decide +kernel
theorem dL_law_509 : decode code 509 = .ok (.aload_n 0, 1) := by decide +kernel
theorem dL_law_510 : decode code 510 = .ok (.iload_n 3, 1) := by decide +kernel
theorem dL_law_511 : decode code 511 = .ok (.iconst 2, 1) := by decide +kernel
theorem dL_law_512 : decode code 512 = .ok (.iadd, 1) := by decide +kernel
theorem dL_law_513 : decode code 513 = .ok (.iaload, 1) := by decide +kernel
theorem dL_law_514 : decode code 514 = .ok (.invokevirtual 74, 3) := by decide +kernel
theorem dL_law_517 : decode code 517 = .ok (.if_icmp .eq 123, 3) := by decide +kernel
theorem dL_law_520 : decode code 520 = .ok (.iconst 0, 1) := by decide +kernel
theorem dL_law_521 : decode code 521 = .ok (.ireturn, 1) := by decide +kernel
theorem dL_law_522 : decode code 522 = .ok (.aload_n 1, 1) := by decide +kernel
theorem dL_law_523 : decode code 523 = .ok (.aload_n 0, 1) := by decide +kernel
theorem dL_law_524 : decode code 524 = .ok (.iload_n 3, 1) := by decide +kernel
theorem dL_law_525 : decode code 525 = .ok (.iconst 1, 1) := by decide +kernel
theorem dL_law_526 : decode code 526 = .ok (.iadd, 1) := by decide +kernel
theorem dL_law_527 : decode code 527 = .ok (.iaload, 1) := by decide +kernel
theorem dL_law_528 : decode code 528 = .ok (.invokevirtual 75, 3) := by decide +kernel
theorem dL_law_531 : decode code 531 = .ok (.aload_n 2, 1) := by decide +kernel
theorem dL_law_532 : decode code 532 = .ok (.aload_n 0, 1) := by decide +kernel
theorem dL_law_533 : decode code 533 = .ok (.iload_n 3, 1) := by decide +kernel
theorem dL_law_534 : decode code 534 = .ok (.iconst 1, 1) := by decide +kernel
theorem dL_law_535 : decode code 535 = .ok (.iadd, 1) := by decide +kernel
theorem dL_law_536 : decode code 536 = .ok (.iaload, 1) := by decide +kernel
theorem dL_law_537 : decode code 537 = .ok (.invokevirtual 78, 3) := by decide +kernel
theorem dL_law_540 : decode code 540 = .ok (.if_icmp .eq 100, 3) := by decide +kernel
theorem dL_law_543 : decode code 543 = .ok (.iconst 0, 1) := by decide +kernel
theorem dL_law_544 : decode code 544 = .ok (.ireturn, 1) := by decide +kernel
theorem dL_law_545 : decode code 545 = .ok (.aload_n 1, 1) := by decide +kernel
theorem dL_law_546 : decode code 546 = .ok (.invokevirtual 79, 3) := by decide +kernel
theorem dL_law_549 : decode code 549 = .ok (.aload_n 2, 1) := by decide +kernel
theorem dL_law_550 : decode code 550 = .ok (.invokevirtual 82, 3) := by decide +kernel
theorem dL_law_553 : decode code 553 = .ok (.if_icmp .eq 87, 3) := by decide +kernel
theorem dL_law_556 : decode code 556 = .ok (.iconst 0, 1) := by decide +kernel
theorem dL_law_557 : decode code 557 = .ok (.ireturn, 1) := by decide +kernel
theorem dL_law_558 : decode code 558 = .ok (.aload_n 1, 1) := by decide +kernel
theorem dL_law_559 : decode code 559 = .ok (.invokevirtual 83, 3) := by decide +kernel
theorem dL_law_562 : decode code 562 = .ok (.aload_n 2, 1) := by decide +kernel
theorem dL_law_563 : decode code 563 = .ok (.invokevirtual 86, 3) := by decide +kernel
theorem dL_law_566 : decode code 566 = .ok (.if_icmp .eq 74, 3) := by decide +kernel
theorem dL_law_569 : decode code 569 = .ok (.iconst 0, 1) := by decide +kernel
theorem dL_law_570 : decode code 570 = .ok (.ireturn, 1) := by decide +kernel
theorem dL_law_571 : decode code 571 = .ok (.aload_n 1, 1) := by decide +kernel
theorem dL_law_572 : decode code 572 = .ok (.aload_n 0, 1) := by decide +kernel
theorem dL_law_573 : decode code 573 = .ok (.iload_n 3, 1) := by decide +kernel
theorem dL_law_574 : decode code 574 = .ok (.iconst 1, 1) := by decide +kernel
theorem dL_law_575 : decode code 575 = .ok (.iadd, 1) := by decide +kernel
theorem dL_law_576 : decode code 576 = .ok (.iaload, 1) := by decide +kernel
theorem dL_law_577 : decode code 577 = .ok (.invokevirtual 87, 3) := by decide +kernel
theorem dL_law_580 : decode code 580 = .ok (.aload_n 2, 1) := by decide +kernel
theorem dL_law_581 : decode code 581 = .ok (.aload_n 0, 1) := by decide +kernel
theorem dL_law_582 : decode code 582 = .ok (.iload_n 3, 1) := by decide +kernel
theorem dL_law_583 : decode code 583 = .ok (.iconst 1, 1) := by decide +kernel
theorem dL_law_584 : decode code 584 = .ok (.iadd, 1) := by decide +kernel
theorem dL_law_585 : decode code 585 = .ok (.iaload, 1) := by decide +kernel
theorem dL_law_586 : decode code 586 = .ok (.invokevirtual 90, 3) := by decide +kernel
theorem dL_law_589 : decode code 589 = .ok (.if_icmp .eq 51, 3) := by decide +kernel
theorem dL_law_592 : decode code 592 = .ok (.iconst 0, 1) := by decide +kernel
theorem dL_law_593 : decode code 593 = .ok (.ireturn, 1) := by decide +kernel
theorem dL_law_594 : decode code 594 = .ok (.aload_n 1, 1) := by decide +kernel
theorem dL_law_595 : decode code 595 = .ok (.aload_n 0, 1) := by decide +kernel
theorem dL_law_596 : decode code 596 = .ok (.iload_n 3, 1) := by decide +kernel
theorem dL_law_597 : decode code 597 = .ok (.iconst 1, 1) := by decide +kernel
theorem dL_law_598 : decode code 598 = .ok (.iadd, 1) := by decide +kernel
theorem dL_law_599 : decode code 599 = .ok (.iaload, 1) := by decide +kernel
theorem dL_law_600 : decode code 600 = .ok (.invokevirtual 91, 3) := by decide +kernel
theorem dL_law_603 : decode code 603 = .ok (.aload_n 2, 1) := by decide +kernel
theorem dL_law_604 : decode code 604 = .ok (.aload_n 0, 1) := by decide +kernel
theorem dL_law_605 : decode code 605 = .ok (.iload_n 3, 1) := by decide +kernel
theorem dL_law_606 : decode code 606 = .ok (.iconst 1, 1) := by decide +kernel
theorem dL_law_607 : decode code 607 = .ok (.iadd, 1) := by decide +kernel
theorem dL_law_608 : decode code 608 = .ok (.iaload, 1) := by decide +kernel
theorem dL_law_609 : decode code 609 = .ok (.invokevirtual 94, 3) := by decide +kernel
theorem dL_law_612 : decode code 612 = .ok (.if_icmp .eq 28, 3) := by decide +kernel
theorem dL_law_615 : decode code 615 = .ok (.iconst 0, 1) := by decide +kernel
theorem dL_law_616 : decode code 616 = .ok (.ireturn, 1) := by decide +kernel
theorem dL_law_617 : decode code 617 = .ok (.aload_n 1, 1) := by decide +kernel
theorem dL_law_618 : decode code 618 = .ok (.aload_n 0, 1) := by decide +kernel
theorem dL_law_619 : decode code 619 = .ok (.iload_n 3, 1) := by decide +kernel
theorem dL_law_620 : decode code 620 = .ok (.iconst 1, 1) := by decide +kernel
theorem dL_law_621 : decode code 621 = .ok (.iadd, 1) := by decide +kernel
theorem dL_law_622 : decode code 622 = .ok (.iaload, 1) := by decide +kernel
theorem dL_law_623 : decode code 623 = .ok (.invokevirtual 95, 3) := by decide +kernel
theorem dL_law_626 : decode code 626 = .ok (.aload_n 2, 1) := by decide +kernel
theorem dL_law_627 : decode code 627 = .ok (.aload_n 0, 1) := by decide +kernel
theorem dL_law_628 : decode code 628 = .ok (.iload_n 3, 1) := by decide +kernel
theorem dL_law_629 : decode code 629 = .ok (.iconst 1, 1) := by decide +kernel
theorem dL_law_630 : decode code 630 = .ok (.iadd, 1) := by decide +kernel
theorem dL_law_631 : decode code 631 = .ok (.iaload, 1) := by decide +kernel
theorem dL_law_632 : decode code 632 = .ok (.invokevirtual 98, 3) := by decide +kernel
theorem dL_law_635 : decode code 635 = .ok (.if_icmp .eq 5, 3) := by decide +kernel
theorem dL_law_638 : decode code 638 = .ok (.iconst 0, 1) := by decide +kernel
theorem dL_law_639 : decode code 639 = .ok (.ireturn, 1) := by decide +kernel
theorem dL_law_640 : decode code 640 = .ok (.iinc 3 4, 3) := by decide +kernel
theorem dL_law_643 : decode code 643 = .ok (.goto (-625), 3) := by decide +kernel
theorem dL_law_646 : decode code 646 = .ok (.iconst 1, 1) := by decide +kernel
theorem dL_law_647 : decode code 647 = .ok (.ireturn, 1) := by decide +kernel
end
section
/-! ===== THE CELLS BEHIND THE LAW's START: all numbers in two memories, σ (ints) and τ (longs), by cell and place ===== -/
abbrev mS : Type := Nat → Nat → Int32
abbrev mT : Type := Nat → Nat → Int64
def u2 (σ : mS) (a k : Nat) (v : Int32) : mS := fun b => if b = a then upd (σ a) k v else σ b
def u2L (τ : mT) (a k : Nat) (v : Int64) : mT := fun b => if b = a then vp_updL (τ a) k v else τ b
def u1 (σ : mS) (a : Nat) (f : Nat → Int32) : mS := fun b => if b = a then f else σ b
def mw {α β : Type} (x : α) (k : α → Option β) : Option β := k x
def ob {α β : Type} (o : Option (α × mS × mT)) (k : α → mS → mT → Option β) : Option β := match o with
  | some (a, s, t) => k a s t
  | none => none
def ov {β : Type} (o : Option (mS × mT)) (k : mS → mT → Option β) : Option β := match o with
  | some (s, t) => k s t
  | none => none
theorem og {β : Type} {c : Prop} [Decidable c] {x : Option β} {b : β} (h : (if c then none else x) = some b) : ¬ c ∧ x = some b := by
  by_cases hc : c
  · rw [if_pos hc] at h; cases h
  · rw [if_neg hc] at h; exact ⟨hc, h⟩
theorem ow {α β : Type} {x : α} {k : α → Option β} {b : β} (h : mw x k = some b) : ∃ y, y = x ∧ k y = some b := ⟨x, rfl, h⟩
theorem obs {α β : Type} {o : Option (α × mS × mT)} {k : α → mS → mT → Option β} {b : β} (h : ob o k = some b) : ∃ a s t, o = some (a, s, t) ∧ k a s t = some b := by
  unfold ob at h
  split at h
  · exact ⟨_, _, _, rfl, h⟩
  · cases h
theorem ovs {β : Type} {o : Option (mS × mT)} {k : mS → mT → Option β} {b : β} (h : ov o k = some b) : ∃ s t, o = some (s, t) ∧ k s t = some b := by
  unfold ov at h
  split at h
  · exact ⟨_, _, rfl, h⟩
  · cases h
theorem os2 {α β : Type} {a a' : α} {b b' : β} (h : some (a, b) = some (a', b')) : a = a' ∧ b = b' := by cases h; exact ⟨rfl, rfl⟩
theorem os3 {α β γ : Type} {a a' : α} {b b' : β} {c c' : γ} (h : some (a, b, c) = some (a', b', c')) : a = a' ∧ b = b' ∧ c = c' := by cases h; exact ⟨rfl, rfl, rfl⟩
theorem vin_ok {i : Int32} {n : Nat} (h : (decide (i < 0) || Nat.ble n i.toNatClampNeg) = false) : vp_in i n := by
  obtain ⟨h1, h2⟩ := Bool.or_eq_false_iff.mp h
  intro q
  rcases q with q | q
  · exact absurd q (of_decide_eq_false h1)
  · rw [Nat.ble_eq_true_of_le q] at h2; cases h2
theorem nar_b {v : Int32} (h : ¬ ¬ v &&& 1 = v) : narrow .boolean (.int v) = .int v := congrArg Value.int (Decidable.of_not_not h)
/-- fuel of the loops -/
def mc_F : Nat := 100002
/-- what is known of locals may be forgotten -/
def mc_le : List Value → List Value → Prop
  | [], [] => True
  | x :: xs, y :: ys => (x = .retAddr 0 ∨ x = y) ∧ mc_le xs ys
  | _, _ => False
theorem mc_le_at : ∀ {a b : List Value}, mc_le a b → a.length = b.length ∧ ∀ (i : Nat) (v : Value), a[i]? = some v → v ≠ .retAddr 0 → b[i]? = some v
  | [], [], _ => ⟨rfl, fun i v h => by simp at h⟩
  | x :: xs, y :: ys, h => by
    obtain ⟨h1, h2⟩ := h
    obtain ⟨g1, g2⟩ := mc_le_at h2
    refine ⟨by simp [g1], fun i v hv hn => ?_⟩
    match i, hv with
    | 0, hv =>
      cases hv
      rcases h1 with h1 | h1
      · exact absurd h1 hn
      · rw [h1]; rfl
    | i + 1, hv => exact g2 i v hv hn
  | [], _ :: _, h => h.elim
  | _ :: _, [], h => h.elim
def jmax (x y : Int32) : Int32 := if x < y then y else x
def jmin (x y : Int32) : Int32 := if y < x then y else x
def jabs (x : Int64) : Int64 := if 0 < x then x else -x
section MX
variable {Mt : mc_M} {d : Nat} {scr : Option (Nat × (Nat → Int32))} {pc : Nat} {loc stk : List Value} {h : mc_H} {r : Option Value} {h' : mc_H} {nc ns : Nat}
theorem mc_V.locs {loc' : List Value} (hle : mc_le loc' loc) (k : mc_V Mt d scr pc loc' stk h r h' nc ns) : mc_V Mt d scr pc loc stk h r h' nc ns := by
  intro p l e R s m args below meth c H locs cells slots Q ls G C K X P S L hR E
  obtain ⟨g1, g2⟩ := mc_le_at hle
  refine k p l e R s m args below meth c H locs cells slots Q ls G C K X P S ⟨mc_has_mono L.1 fun q hq => ?_, g1.trans L.2⟩ hR E
  obtain ⟨v, e1, e2, e3⟩ := mc_lv_mem.mp hq
  exact mc_lv_mem.mpr ⟨v, g2 _ v e1 e2, e2, e3⟩
theorem mc_V.heap {h1 : mc_H} (e : h = h1) (k : mc_V Mt d scr pc loc stk h1 r h' nc ns) : mc_V Mt d scr pc loc stk h r h' nc ns := e ▸ k
theorem mr_iconstv {n : Int} (v : Int32) (hd : decode Mt.2.1 pc = .ok (.iconst n, 1)) (hv : Int32.ofInt n = v) (k : mc_V Mt d scr (pc + 1) loc (.int v :: stk) h r h' nc ns) : mc_V Mt d scr pc loc stk h r h' nc ns := mr_iconst hd (hv ▸ k)
theorem mr_bipushv {n : Int} (v : Int32) (hd : decode Mt.2.1 pc = .ok (.bipush n, 2)) (hv : (Int8.ofInt n).toInt32 = v) (k : mc_V Mt d scr (pc + 2) loc (.int v :: stk) h r h' nc ns) : mc_V Mt d scr pc loc stk h r h' nc ns := mr_bipush hd (hv ▸ k)
theorem mr_sipushv {n : Int} (v : Int32) (hd : decode Mt.2.1 pc = .ok (.sipush n, 3)) (hv : (Int16.ofInt n).toInt32 = v) (k : mc_V Mt d scr (pc + 3) loc (.int v :: stk) h r h' nc ns) : mc_V Mt d scr pc loc stk h r h' nc ns := mr_sipush hd (hv ▸ k)
theorem mr_lconstv {n : Fin 2} (v : Int64) (hd : decode Mt.2.1 pc = .ok (.lconst n, 1)) (hv : Int64.ofNat (n : Nat) = v) (k : mc_V Mt d scr (pc + 1) loc (.long v :: stk) h r h' nc ns) : mc_V Mt d scr pc loc stk h r h' nc ns := mr_lconst hd (hv ▸ k)
theorem mr_iincv {i : Nat} {n : Int} {x : Int32} (v : Int32) (hd : decode Mt.2.1 pc = .ok (.iinc i n, 3)) (hl : loc[i]? = some (.int x)) (hv : Int32.ofInt n = v) (k : mc_V Mt d scr (pc + 3) (mc_set1 loc i (.int (x + v))) stk h r h' nc ns) : mc_V Mt d scr pc loc stk h r h' nc ns := mr_iinc hd hl (hv ▸ k)
theorem mr_callS0 {Mk : mc_M} {idx n : Nat} {stk0 : List Value} {rc : Option Value} {hc : mc_H} (vs : List Value) (hok : mc_ok Mk n) (hw : Cond.methodLink Mt.1.cls idx Mk.1 ∈ mc_tbl) (hst : Cond.static Mk.1 ∈ mc_tbl) (hd : decode Mt.2.1 pc = .ok (.invokestatic idx, 3)) (hs : stk0 = vs.reverse ++ stk) (hn : vs.length = n) (hvs : (mc_flat vs).length ≤ Mk.2.2.1) (hm : (stk.map fun v => v.category).sum ≤ 8)
    (kc : mc_V Mk d none 0 (mc_entry vs Mk.2.2.1) [] h rc hc 0 0) (k : mc_V Mt (d + 1) scr (pc + 3) loc (rc.toList ++ stk) hc r h' 0 0) : mc_V Mt (d + 1) scr pc loc stk0 h r h' 0 0 := mr_callS (nc1 := 0) (ns1 := 0) (nc2 := 0) (ns2 := 0) vs hok hw hst hd hs hn hvs hm kc k
theorem mr_callSN0 {Mk : mc_M} {idx n : Nat} {stk0 : List Value} {rc : Option Value} {hc : mc_H} {host : String} (vs : List Value) (hok : mc_ok Mk n) (hw : Cond.methodLinkNest Mt.1.cls idx Mk.1 host ∈ mc_tbl) (hst : Cond.static Mk.1 ∈ mc_tbl) (hd : decode Mt.2.1 pc = .ok (.invokestatic idx, 3)) (hs : stk0 = vs.reverse ++ stk) (hn : vs.length = n) (hvs : (mc_flat vs).length ≤ Mk.2.2.1) (hm : (stk.map fun v => v.category).sum ≤ 8)
    (kc : mc_V Mk d none 0 (mc_entry vs Mk.2.2.1) [] h rc hc 0 0) (k : mc_V Mt (d + 1) scr (pc + 3) loc (rc.toList ++ stk) hc r h' 0 0) : mc_V Mt (d + 1) scr pc loc stk0 h r h' 0 0 := mr_callSN (nc1 := 0) (ns1 := 0) (nc2 := 0) (ns2 := 0) vs hok hw hst hd hs hn hvs hm kc k
theorem mr_callV0 {Mk : mc_M} {a ci idx n : Nat} {C0 : String} {T : u_T} {N : Nat} {fs : List Value} {stk0 : List Value} {rc : Option Value} {hc : mc_H} (vs : List Value) (hok : mc_ok Mk n) (hw : Cond.methodLink Mt.1.cls idx Mk.1 ∈ mc_tbl) (hst : Cond.instanceMethod Mk.1 ∈ mc_tbl) (hse : Cond.selects C0 Mk.1 Mk.1 ∈ mc_tbl) (hd : decode Mt.2.1 pc = .ok (.invokevirtual idx, 3)) (hcl : mc_cl[ci]? = some (C0, T, N)) (ha : h[a]? = some (.inl (ci, fs))) (hs : stk0 = vs.reverse ++ .ref (a + 1) :: stk) (hn : vs.length = n) (hvs : (mc_flat (.ref (a + 1) :: vs)).length ≤ Mk.2.2.1) (hm : (stk.map fun v => v.category).sum ≤ 8)
    (kc : mc_V Mk d none 0 (mc_entry (.ref (a + 1) :: vs) Mk.2.2.1) [] h rc hc 0 0) (k : mc_V Mt (d + 1) scr (pc + 3) loc (rc.toList ++ stk) hc r h' 0 0) : mc_V Mt (d + 1) scr pc loc stk0 h r h' 0 0 := mr_callV (nc1 := 0) (ns1 := 0) (nc2 := 0) (ns2 := 0) vs hok hw hst hse hd hcl ha hs hn hvs hm kc k
theorem mr_mmax {idx : Nat} {x y : Int32} (hw : Cond.methodLink Mt.1.cls idx Lib.Math.max.name ∈ mc_tbl) (hd : decode Mt.2.1 pc = .ok (.invokestatic idx, 3)) (hm : (stk.map fun v => v.category).sum ≤ 8) (k : mc_V Mt (d + 1) scr (pc + 3) loc (.int (jmax x y) :: stk) h r h' nc ns) : mc_V Mt (d + 1) scr pc loc (.int y :: .int x :: stk) h r h' nc ns := by
  intro p l e R s m args below meth c H locs cells slots Q ls G C K X P S L hR E
  have hts : ∀ w ∈ mc_tbl, w.before args s = true := fun w h => C.2.2.2.2.2.2.1 _ w h
  have hrm := mc_roomW (G := G) hm
  refine va_mmax C.1 C.2.1 (C.2.2.1.trans L.1.1.symm) C.2.2.2.2.2.1 (hts _ hw) (hts _ mm_st_max) (hts _ mm_ini) (hts _ mm_cd_max) (by have := hR.1; omega) (by have := hR.2.1; omega) (by have := hR.2.2.1; omega) (by have := hR.2.2.2; omega) hd ?_
  exact k p l e R s m args below meth c H locs cells slots Q ls G C K X P S L hR E
theorem mr_mmin {idx : Nat} {x y : Int32} (hw : Cond.methodLink Mt.1.cls idx Lib.Math.min.name ∈ mc_tbl) (hd : decode Mt.2.1 pc = .ok (.invokestatic idx, 3)) (hm : (stk.map fun v => v.category).sum ≤ 8) (k : mc_V Mt (d + 1) scr (pc + 3) loc (.int (jmin x y) :: stk) h r h' nc ns) : mc_V Mt (d + 1) scr pc loc (.int y :: .int x :: stk) h r h' nc ns := by
  intro p l e R s m args below meth c H locs cells slots Q ls G C K X P S L hR E
  have hts : ∀ w ∈ mc_tbl, w.before args s = true := fun w h => C.2.2.2.2.2.2.1 _ w h
  have hrm := mc_roomW (G := G) hm
  refine va_mmin C.1 C.2.1 (C.2.2.1.trans L.1.1.symm) C.2.2.2.2.2.1 (hts _ hw) (hts _ mm_st_min) (hts _ mm_ini) (hts _ mm_cd_min) (by have := hR.1; omega) (by have := hR.2.1; omega) (by have := hR.2.2.1; omega) (by have := hR.2.2.2; omega) hd ?_
  exact k p l e R s m args below meth c H locs cells slots Q ls G C K X P S L hR E
theorem mr_mabs {idx : Nat} {x : Int64} (hw : Cond.methodLink Mt.1.cls idx Lib.MathLoose.abs_long.x ∈ mc_tbl) (hd : decode Mt.2.1 pc = .ok (.invokestatic idx, 3)) (hm : (stk.map fun v => v.category).sum ≤ 8) (k : mc_V Mt (d + 1) scr (pc + 3) loc (.long (jabs x) :: stk) h r h' nc ns) : mc_V Mt (d + 1) scr pc loc (.long x :: stk) h r h' nc ns := by
  intro p l e R s m args below meth c H locs cells slots Q ls G C K X P S L hR E
  have hts : ∀ w ∈ mc_tbl, w.before args s = true := fun w h => C.2.2.2.2.2.2.1 _ w h
  have hrm := mc_roomW (G := G) hm
  refine va_mabs_long C.1 C.2.1 (C.2.2.1.trans L.1.1.symm) C.2.2.2.2.2.1 (hts _ hw) (hts _ mm_st_abs) (hts _ mm_ini) (hts _ mm_cd_abs) (by have := hR.1; omega) (by have := hR.2.1; omega) (by have := hR.2.2.1; omega) (by have := hR.2.2.2; omega) hd ?_
  exact k p l e R s m args below meth c H locs cells slots Q ls G C K X P S L hR E
end MX

def mc_hp (σ : mS) (τ : mT) : mc_H := [
  .inl (5, [.ref 2, .ref 4, .ref 6, .ref 15, .ref 27, .ref 29, .ref 31, .ref 33, .int (σ 1 8)]),
  .inl (2, [.ref 3]),
  .inr (.inl (.int, 21, σ 3)),
  .inl (2, [.ref 5]),
  .inr (.inl (.int, 21, σ 5)),
  .inl (1, [.ref 7, .ref 8, .ref 9, .ref 10, .ref 11, .ref 12, .ref 13, .ref 14, .int (σ 6 8), .int (σ 6 9)]),
  .inr (.inl (.int, 4, σ 7)),
  .inr (.inl (.int, 4, σ 8)),
  .inr (.inl (.int, 4, σ 9)),
  .inr (.inl (.int, 4, σ 10)),
  .inr (.inl (.int, 4, σ 11)),
  .inr (.inl (.int, 12, σ 12)),
  .inr (.inl (.int, 12, σ 13)),
  .inr (.inl (.int, 12, σ 14)),
  .inl (0, [.ref 16, .ref 25, .ref 26, .int (σ 15 3), .int (σ 15 4), .long (τ 15 5)]),
  .inr (.inr (.inr (8, fun i => if i < 8 then some (17 + i) else none))),
  .inr (.inr (.inl (14, τ 17))),
  .inr (.inr (.inl (14, τ 18))),
  .inr (.inr (.inl (14, τ 19))),
  .inr (.inr (.inl (14, τ 20))),
  .inr (.inr (.inl (14, τ 21))),
  .inr (.inr (.inl (14, τ 22))),
  .inr (.inr (.inl (14, τ 23))),
  .inr (.inr (.inl (14, τ 24))),
  .inr (.inl (.int, 8, σ 25)),
  .inr (.inl (.int, 4, σ 26)),
  .inl (4, [.ref 28, .int (σ 27 1), .int (σ 27 2)]),
  .inr (.inl (.short, 120, σ 28)),
  .inl (3, [.int 6, .ref 30]),
  .inr (.inl (.int, 126, σ 30)),
  .inl (3, [.int 2, .ref 32]),
  .inr (.inl (.int, 42, σ 32)),
  .inr (.inl (.boolean, 2, σ 33)),
  .inl (6, [.ref 35, .ref 36, .int (σ 34 2), .ref 37, .ref 38, .ref 39, .int (σ 34 6), .ref 40, .ref 41, .int (σ 34 9), .ref 42, .ref 43, .ref 44, .int (σ 34 13), .int (σ 34 14), .ref 45, .ref 46, .ref 47, .int (σ 34 18), .long (τ 34 19), .long (τ 34 20), .long (τ 34 21), .long (τ 34 22), .int (σ 34 23), .int (σ 34 24), .int (σ 34 25), .ref 48]),
  .inr (.inl (.int, 21, σ 35)),
  .inr (.inl (.int, 126, σ 36)),
  .inr (.inl (.int, 42, σ 37)),
  .inr (.inl (.boolean, 2, σ 38)),
  .inr (.inl (.int, 120, σ 39)),
  .inr (.inl (.int, 4, σ 40)),
  .inr (.inl (.int, 4, σ 41)),
  .inr (.inl (.int, 16, σ 42)),
  .inr (.inl (.int, 16, σ 43)),
  .inr (.inl (.int, 16, σ 44)),
  .inr (.inr (.inl (128, τ 45))),
  .inr (.inr (.inl (8, τ 46))),
  .inr (.inr (.inl (72, τ 47))),
  .inr (.inl (.int, 21, σ 48))]
theorem ha_1 (σ : mS) (τ : mT) : (mc_hp σ τ)[0]? = some (.inl (5, [.ref 2, .ref 4, .ref 6, .ref 15, .ref 27, .ref 29, .ref 31, .ref 33, .int (σ 1 8)])) := rfl
theorem hs_1_8 {σ σ1 : mS} {τ : mT} {v : Int32} (e : σ1 = u2 σ 1 8 v) : (mc_hp σ τ).set 0 (.inl (5, [.ref 2, .ref 4, .ref 6, .ref 15, .ref 27, .ref 29, .ref 31, .ref 33, .int v])) = mc_hp σ1 τ := by subst e; rfl
theorem ha_2 (σ : mS) (τ : mT) : (mc_hp σ τ)[1]? = some (.inl (2, [.ref 3])) := rfl
theorem ha_3 (σ : mS) (τ : mT) : (mc_hp σ τ)[2]? = some (.inr (.inl (.int, 21, σ 3))) := rfl
theorem hs_3 {σ σ1 : mS} {τ : mT} {i : Nat} {v : Int32} (e : σ1 = u2 σ 3 i v) : (mc_hp σ τ).set 2 (.inr (.inl (.int, 21, upd (σ 3) i v))) = mc_hp σ1 τ := by subst e; rfl
theorem hc_3 {σ σ1 : mS} {τ : mT} {f : Nat → Int32} (e : σ1 = u1 σ 3 f) : (mc_hp σ τ).set 2 (.inr (.inl (.int, 21, f))) = mc_hp σ1 τ := by subst e; rfl
theorem ha_4 (σ : mS) (τ : mT) : (mc_hp σ τ)[3]? = some (.inl (2, [.ref 5])) := rfl
theorem ha_5 (σ : mS) (τ : mT) : (mc_hp σ τ)[4]? = some (.inr (.inl (.int, 21, σ 5))) := rfl
theorem hs_5 {σ σ1 : mS} {τ : mT} {i : Nat} {v : Int32} (e : σ1 = u2 σ 5 i v) : (mc_hp σ τ).set 4 (.inr (.inl (.int, 21, upd (σ 5) i v))) = mc_hp σ1 τ := by subst e; rfl
theorem hc_5 {σ σ1 : mS} {τ : mT} {f : Nat → Int32} (e : σ1 = u1 σ 5 f) : (mc_hp σ τ).set 4 (.inr (.inl (.int, 21, f))) = mc_hp σ1 τ := by subst e; rfl
theorem ha_6 (σ : mS) (τ : mT) : (mc_hp σ τ)[5]? = some (.inl (1, [.ref 7, .ref 8, .ref 9, .ref 10, .ref 11, .ref 12, .ref 13, .ref 14, .int (σ 6 8), .int (σ 6 9)])) := rfl
theorem hs_6_8 {σ σ1 : mS} {τ : mT} {v : Int32} (e : σ1 = u2 σ 6 8 v) : (mc_hp σ τ).set 5 (.inl (1, [.ref 7, .ref 8, .ref 9, .ref 10, .ref 11, .ref 12, .ref 13, .ref 14, .int v, .int (σ 6 9)])) = mc_hp σ1 τ := by subst e; rfl
theorem hs_6_9 {σ σ1 : mS} {τ : mT} {v : Int32} (e : σ1 = u2 σ 6 9 v) : (mc_hp σ τ).set 5 (.inl (1, [.ref 7, .ref 8, .ref 9, .ref 10, .ref 11, .ref 12, .ref 13, .ref 14, .int (σ 6 8), .int v])) = mc_hp σ1 τ := by subst e; rfl
theorem ha_7 (σ : mS) (τ : mT) : (mc_hp σ τ)[6]? = some (.inr (.inl (.int, 4, σ 7))) := rfl
theorem hs_7 {σ σ1 : mS} {τ : mT} {i : Nat} {v : Int32} (e : σ1 = u2 σ 7 i v) : (mc_hp σ τ).set 6 (.inr (.inl (.int, 4, upd (σ 7) i v))) = mc_hp σ1 τ := by subst e; rfl
theorem hc_7 {σ σ1 : mS} {τ : mT} {f : Nat → Int32} (e : σ1 = u1 σ 7 f) : (mc_hp σ τ).set 6 (.inr (.inl (.int, 4, f))) = mc_hp σ1 τ := by subst e; rfl
theorem ha_8 (σ : mS) (τ : mT) : (mc_hp σ τ)[7]? = some (.inr (.inl (.int, 4, σ 8))) := rfl
theorem hs_8 {σ σ1 : mS} {τ : mT} {i : Nat} {v : Int32} (e : σ1 = u2 σ 8 i v) : (mc_hp σ τ).set 7 (.inr (.inl (.int, 4, upd (σ 8) i v))) = mc_hp σ1 τ := by subst e; rfl
theorem hc_8 {σ σ1 : mS} {τ : mT} {f : Nat → Int32} (e : σ1 = u1 σ 8 f) : (mc_hp σ τ).set 7 (.inr (.inl (.int, 4, f))) = mc_hp σ1 τ := by subst e; rfl
theorem ha_9 (σ : mS) (τ : mT) : (mc_hp σ τ)[8]? = some (.inr (.inl (.int, 4, σ 9))) := rfl
theorem hs_9 {σ σ1 : mS} {τ : mT} {i : Nat} {v : Int32} (e : σ1 = u2 σ 9 i v) : (mc_hp σ τ).set 8 (.inr (.inl (.int, 4, upd (σ 9) i v))) = mc_hp σ1 τ := by subst e; rfl
theorem hc_9 {σ σ1 : mS} {τ : mT} {f : Nat → Int32} (e : σ1 = u1 σ 9 f) : (mc_hp σ τ).set 8 (.inr (.inl (.int, 4, f))) = mc_hp σ1 τ := by subst e; rfl
theorem ha_10 (σ : mS) (τ : mT) : (mc_hp σ τ)[9]? = some (.inr (.inl (.int, 4, σ 10))) := rfl
theorem hs_10 {σ σ1 : mS} {τ : mT} {i : Nat} {v : Int32} (e : σ1 = u2 σ 10 i v) : (mc_hp σ τ).set 9 (.inr (.inl (.int, 4, upd (σ 10) i v))) = mc_hp σ1 τ := by subst e; rfl
theorem hc_10 {σ σ1 : mS} {τ : mT} {f : Nat → Int32} (e : σ1 = u1 σ 10 f) : (mc_hp σ τ).set 9 (.inr (.inl (.int, 4, f))) = mc_hp σ1 τ := by subst e; rfl
theorem ha_11 (σ : mS) (τ : mT) : (mc_hp σ τ)[10]? = some (.inr (.inl (.int, 4, σ 11))) := rfl
theorem hs_11 {σ σ1 : mS} {τ : mT} {i : Nat} {v : Int32} (e : σ1 = u2 σ 11 i v) : (mc_hp σ τ).set 10 (.inr (.inl (.int, 4, upd (σ 11) i v))) = mc_hp σ1 τ := by subst e; rfl
theorem hc_11 {σ σ1 : mS} {τ : mT} {f : Nat → Int32} (e : σ1 = u1 σ 11 f) : (mc_hp σ τ).set 10 (.inr (.inl (.int, 4, f))) = mc_hp σ1 τ := by subst e; rfl
theorem ha_12 (σ : mS) (τ : mT) : (mc_hp σ τ)[11]? = some (.inr (.inl (.int, 12, σ 12))) := rfl
theorem hs_12 {σ σ1 : mS} {τ : mT} {i : Nat} {v : Int32} (e : σ1 = u2 σ 12 i v) : (mc_hp σ τ).set 11 (.inr (.inl (.int, 12, upd (σ 12) i v))) = mc_hp σ1 τ := by subst e; rfl
theorem hc_12 {σ σ1 : mS} {τ : mT} {f : Nat → Int32} (e : σ1 = u1 σ 12 f) : (mc_hp σ τ).set 11 (.inr (.inl (.int, 12, f))) = mc_hp σ1 τ := by subst e; rfl
theorem ha_13 (σ : mS) (τ : mT) : (mc_hp σ τ)[12]? = some (.inr (.inl (.int, 12, σ 13))) := rfl
theorem hs_13 {σ σ1 : mS} {τ : mT} {i : Nat} {v : Int32} (e : σ1 = u2 σ 13 i v) : (mc_hp σ τ).set 12 (.inr (.inl (.int, 12, upd (σ 13) i v))) = mc_hp σ1 τ := by subst e; rfl
theorem hc_13 {σ σ1 : mS} {τ : mT} {f : Nat → Int32} (e : σ1 = u1 σ 13 f) : (mc_hp σ τ).set 12 (.inr (.inl (.int, 12, f))) = mc_hp σ1 τ := by subst e; rfl
theorem ha_14 (σ : mS) (τ : mT) : (mc_hp σ τ)[13]? = some (.inr (.inl (.int, 12, σ 14))) := rfl
theorem hs_14 {σ σ1 : mS} {τ : mT} {i : Nat} {v : Int32} (e : σ1 = u2 σ 14 i v) : (mc_hp σ τ).set 13 (.inr (.inl (.int, 12, upd (σ 14) i v))) = mc_hp σ1 τ := by subst e; rfl
theorem hc_14 {σ σ1 : mS} {τ : mT} {f : Nat → Int32} (e : σ1 = u1 σ 14 f) : (mc_hp σ τ).set 13 (.inr (.inl (.int, 12, f))) = mc_hp σ1 τ := by subst e; rfl
theorem ha_15 (σ : mS) (τ : mT) : (mc_hp σ τ)[14]? = some (.inl (0, [.ref 16, .ref 25, .ref 26, .int (σ 15 3), .int (σ 15 4), .long (τ 15 5)])) := rfl
theorem hs_15_3 {σ σ1 : mS} {τ : mT} {v : Int32} (e : σ1 = u2 σ 15 3 v) : (mc_hp σ τ).set 14 (.inl (0, [.ref 16, .ref 25, .ref 26, .int v, .int (σ 15 4), .long (τ 15 5)])) = mc_hp σ1 τ := by subst e; rfl
theorem hs_15_4 {σ σ1 : mS} {τ : mT} {v : Int32} (e : σ1 = u2 σ 15 4 v) : (mc_hp σ τ).set 14 (.inl (0, [.ref 16, .ref 25, .ref 26, .int (σ 15 3), .int v, .long (τ 15 5)])) = mc_hp σ1 τ := by subst e; rfl
theorem hs_15_5 {σ : mS} {τ τ1 : mT} {v : Int64} (e : τ1 = u2L τ 15 5 v) : (mc_hp σ τ).set 14 (.inl (0, [.ref 16, .ref 25, .ref 26, .int (σ 15 3), .int (σ 15 4), .long v])) = mc_hp σ τ1 := by subst e; rfl
theorem ha_16 (σ : mS) (τ : mT) : (mc_hp σ τ)[15]? = some (.inr (.inr (.inr (8, fun i => if i < 8 then some (17 + i) else none)))) := rfl
theorem ha_17 (σ : mS) (τ : mT) : (mc_hp σ τ)[16]? = some (.inr (.inr (.inl (14, τ 17)))) := rfl
theorem hs_17 {σ : mS} {τ τ1 : mT} {i : Nat} {v : Int64} (e : τ1 = u2L τ 17 i v) : (mc_hp σ τ).set 16 (.inr (.inr (.inl (14, vp_updL (τ 17) i v)))) = mc_hp σ τ1 := by subst e; rfl
theorem ha_18 (σ : mS) (τ : mT) : (mc_hp σ τ)[17]? = some (.inr (.inr (.inl (14, τ 18)))) := rfl
theorem hs_18 {σ : mS} {τ τ1 : mT} {i : Nat} {v : Int64} (e : τ1 = u2L τ 18 i v) : (mc_hp σ τ).set 17 (.inr (.inr (.inl (14, vp_updL (τ 18) i v)))) = mc_hp σ τ1 := by subst e; rfl
theorem ha_19 (σ : mS) (τ : mT) : (mc_hp σ τ)[18]? = some (.inr (.inr (.inl (14, τ 19)))) := rfl
theorem hs_19 {σ : mS} {τ τ1 : mT} {i : Nat} {v : Int64} (e : τ1 = u2L τ 19 i v) : (mc_hp σ τ).set 18 (.inr (.inr (.inl (14, vp_updL (τ 19) i v)))) = mc_hp σ τ1 := by subst e; rfl
theorem ha_20 (σ : mS) (τ : mT) : (mc_hp σ τ)[19]? = some (.inr (.inr (.inl (14, τ 20)))) := rfl
theorem hs_20 {σ : mS} {τ τ1 : mT} {i : Nat} {v : Int64} (e : τ1 = u2L τ 20 i v) : (mc_hp σ τ).set 19 (.inr (.inr (.inl (14, vp_updL (τ 20) i v)))) = mc_hp σ τ1 := by subst e; rfl
theorem ha_21 (σ : mS) (τ : mT) : (mc_hp σ τ)[20]? = some (.inr (.inr (.inl (14, τ 21)))) := rfl
theorem hs_21 {σ : mS} {τ τ1 : mT} {i : Nat} {v : Int64} (e : τ1 = u2L τ 21 i v) : (mc_hp σ τ).set 20 (.inr (.inr (.inl (14, vp_updL (τ 21) i v)))) = mc_hp σ τ1 := by subst e; rfl
theorem ha_22 (σ : mS) (τ : mT) : (mc_hp σ τ)[21]? = some (.inr (.inr (.inl (14, τ 22)))) := rfl
theorem hs_22 {σ : mS} {τ τ1 : mT} {i : Nat} {v : Int64} (e : τ1 = u2L τ 22 i v) : (mc_hp σ τ).set 21 (.inr (.inr (.inl (14, vp_updL (τ 22) i v)))) = mc_hp σ τ1 := by subst e; rfl
theorem ha_23 (σ : mS) (τ : mT) : (mc_hp σ τ)[22]? = some (.inr (.inr (.inl (14, τ 23)))) := rfl
theorem hs_23 {σ : mS} {τ τ1 : mT} {i : Nat} {v : Int64} (e : τ1 = u2L τ 23 i v) : (mc_hp σ τ).set 22 (.inr (.inr (.inl (14, vp_updL (τ 23) i v)))) = mc_hp σ τ1 := by subst e; rfl
theorem ha_24 (σ : mS) (τ : mT) : (mc_hp σ τ)[23]? = some (.inr (.inr (.inl (14, τ 24)))) := rfl
theorem hs_24 {σ : mS} {τ τ1 : mT} {i : Nat} {v : Int64} (e : τ1 = u2L τ 24 i v) : (mc_hp σ τ).set 23 (.inr (.inr (.inl (14, vp_updL (τ 24) i v)))) = mc_hp σ τ1 := by subst e; rfl
theorem ha_25 (σ : mS) (τ : mT) : (mc_hp σ τ)[24]? = some (.inr (.inl (.int, 8, σ 25))) := rfl
theorem hs_25 {σ σ1 : mS} {τ : mT} {i : Nat} {v : Int32} (e : σ1 = u2 σ 25 i v) : (mc_hp σ τ).set 24 (.inr (.inl (.int, 8, upd (σ 25) i v))) = mc_hp σ1 τ := by subst e; rfl
theorem hc_25 {σ σ1 : mS} {τ : mT} {f : Nat → Int32} (e : σ1 = u1 σ 25 f) : (mc_hp σ τ).set 24 (.inr (.inl (.int, 8, f))) = mc_hp σ1 τ := by subst e; rfl
theorem ha_26 (σ : mS) (τ : mT) : (mc_hp σ τ)[25]? = some (.inr (.inl (.int, 4, σ 26))) := rfl
theorem hs_26 {σ σ1 : mS} {τ : mT} {i : Nat} {v : Int32} (e : σ1 = u2 σ 26 i v) : (mc_hp σ τ).set 25 (.inr (.inl (.int, 4, upd (σ 26) i v))) = mc_hp σ1 τ := by subst e; rfl
theorem hc_26 {σ σ1 : mS} {τ : mT} {f : Nat → Int32} (e : σ1 = u1 σ 26 f) : (mc_hp σ τ).set 25 (.inr (.inl (.int, 4, f))) = mc_hp σ1 τ := by subst e; rfl
theorem ha_27 (σ : mS) (τ : mT) : (mc_hp σ τ)[26]? = some (.inl (4, [.ref 28, .int (σ 27 1), .int (σ 27 2)])) := rfl
theorem hs_27_1 {σ σ1 : mS} {τ : mT} {v : Int32} (e : σ1 = u2 σ 27 1 v) : (mc_hp σ τ).set 26 (.inl (4, [.ref 28, .int v, .int (σ 27 2)])) = mc_hp σ1 τ := by subst e; rfl
theorem hs_27_2 {σ σ1 : mS} {τ : mT} {v : Int32} (e : σ1 = u2 σ 27 2 v) : (mc_hp σ τ).set 26 (.inl (4, [.ref 28, .int (σ 27 1), .int v])) = mc_hp σ1 τ := by subst e; rfl
theorem ha_28 (σ : mS) (τ : mT) : (mc_hp σ τ)[27]? = some (.inr (.inl (.short, 120, σ 28))) := rfl
theorem hs_28 {σ σ1 : mS} {τ : mT} {i : Nat} {v : Int32} (e : σ1 = u2 σ 28 i v) : (mc_hp σ τ).set 27 (.inr (.inl (.short, 120, upd (σ 28) i v))) = mc_hp σ1 τ := by subst e; rfl
theorem ha_29 (σ : mS) (τ : mT) : (mc_hp σ τ)[28]? = some (.inl (3, [.int 6, .ref 30])) := rfl
theorem ha_30 (σ : mS) (τ : mT) : (mc_hp σ τ)[29]? = some (.inr (.inl (.int, 126, σ 30))) := rfl
theorem hs_30 {σ σ1 : mS} {τ : mT} {i : Nat} {v : Int32} (e : σ1 = u2 σ 30 i v) : (mc_hp σ τ).set 29 (.inr (.inl (.int, 126, upd (σ 30) i v))) = mc_hp σ1 τ := by subst e; rfl
theorem hc_30 {σ σ1 : mS} {τ : mT} {f : Nat → Int32} (e : σ1 = u1 σ 30 f) : (mc_hp σ τ).set 29 (.inr (.inl (.int, 126, f))) = mc_hp σ1 τ := by subst e; rfl
theorem ha_31 (σ : mS) (τ : mT) : (mc_hp σ τ)[30]? = some (.inl (3, [.int 2, .ref 32])) := rfl
theorem ha_32 (σ : mS) (τ : mT) : (mc_hp σ τ)[31]? = some (.inr (.inl (.int, 42, σ 32))) := rfl
theorem hs_32 {σ σ1 : mS} {τ : mT} {i : Nat} {v : Int32} (e : σ1 = u2 σ 32 i v) : (mc_hp σ τ).set 31 (.inr (.inl (.int, 42, upd (σ 32) i v))) = mc_hp σ1 τ := by subst e; rfl
theorem hc_32 {σ σ1 : mS} {τ : mT} {f : Nat → Int32} (e : σ1 = u1 σ 32 f) : (mc_hp σ τ).set 31 (.inr (.inl (.int, 42, f))) = mc_hp σ1 τ := by subst e; rfl
theorem ha_33 (σ : mS) (τ : mT) : (mc_hp σ τ)[32]? = some (.inr (.inl (.boolean, 2, σ 33))) := rfl
theorem hs_33 {σ σ1 : mS} {τ : mT} {i : Nat} {v : Int32} (e : σ1 = u2 σ 33 i v) : (mc_hp σ τ).set 32 (.inr (.inl (.boolean, 2, upd (σ 33) i v))) = mc_hp σ1 τ := by subst e; rfl
theorem ha_34 (σ : mS) (τ : mT) : (mc_hp σ τ)[33]? = some (.inl (6, [.ref 35, .ref 36, .int (σ 34 2), .ref 37, .ref 38, .ref 39, .int (σ 34 6), .ref 40, .ref 41, .int (σ 34 9), .ref 42, .ref 43, .ref 44, .int (σ 34 13), .int (σ 34 14), .ref 45, .ref 46, .ref 47, .int (σ 34 18), .long (τ 34 19), .long (τ 34 20), .long (τ 34 21), .long (τ 34 22), .int (σ 34 23), .int (σ 34 24), .int (σ 34 25), .ref 48])) := rfl
theorem hs_34_2 {σ σ1 : mS} {τ : mT} {v : Int32} (e : σ1 = u2 σ 34 2 v) : (mc_hp σ τ).set 33 (.inl (6, [.ref 35, .ref 36, .int v, .ref 37, .ref 38, .ref 39, .int (σ 34 6), .ref 40, .ref 41, .int (σ 34 9), .ref 42, .ref 43, .ref 44, .int (σ 34 13), .int (σ 34 14), .ref 45, .ref 46, .ref 47, .int (σ 34 18), .long (τ 34 19), .long (τ 34 20), .long (τ 34 21), .long (τ 34 22), .int (σ 34 23), .int (σ 34 24), .int (σ 34 25), .ref 48])) = mc_hp σ1 τ := by subst e; rfl
theorem hs_34_6 {σ σ1 : mS} {τ : mT} {v : Int32} (e : σ1 = u2 σ 34 6 v) : (mc_hp σ τ).set 33 (.inl (6, [.ref 35, .ref 36, .int (σ 34 2), .ref 37, .ref 38, .ref 39, .int v, .ref 40, .ref 41, .int (σ 34 9), .ref 42, .ref 43, .ref 44, .int (σ 34 13), .int (σ 34 14), .ref 45, .ref 46, .ref 47, .int (σ 34 18), .long (τ 34 19), .long (τ 34 20), .long (τ 34 21), .long (τ 34 22), .int (σ 34 23), .int (σ 34 24), .int (σ 34 25), .ref 48])) = mc_hp σ1 τ := by subst e; rfl
theorem hs_34_9 {σ σ1 : mS} {τ : mT} {v : Int32} (e : σ1 = u2 σ 34 9 v) : (mc_hp σ τ).set 33 (.inl (6, [.ref 35, .ref 36, .int (σ 34 2), .ref 37, .ref 38, .ref 39, .int (σ 34 6), .ref 40, .ref 41, .int v, .ref 42, .ref 43, .ref 44, .int (σ 34 13), .int (σ 34 14), .ref 45, .ref 46, .ref 47, .int (σ 34 18), .long (τ 34 19), .long (τ 34 20), .long (τ 34 21), .long (τ 34 22), .int (σ 34 23), .int (σ 34 24), .int (σ 34 25), .ref 48])) = mc_hp σ1 τ := by subst e; rfl
theorem hs_34_13 {σ σ1 : mS} {τ : mT} {v : Int32} (e : σ1 = u2 σ 34 13 v) : (mc_hp σ τ).set 33 (.inl (6, [.ref 35, .ref 36, .int (σ 34 2), .ref 37, .ref 38, .ref 39, .int (σ 34 6), .ref 40, .ref 41, .int (σ 34 9), .ref 42, .ref 43, .ref 44, .int v, .int (σ 34 14), .ref 45, .ref 46, .ref 47, .int (σ 34 18), .long (τ 34 19), .long (τ 34 20), .long (τ 34 21), .long (τ 34 22), .int (σ 34 23), .int (σ 34 24), .int (σ 34 25), .ref 48])) = mc_hp σ1 τ := by subst e; rfl
theorem hs_34_14 {σ σ1 : mS} {τ : mT} {v : Int32} (e : σ1 = u2 σ 34 14 v) : (mc_hp σ τ).set 33 (.inl (6, [.ref 35, .ref 36, .int (σ 34 2), .ref 37, .ref 38, .ref 39, .int (σ 34 6), .ref 40, .ref 41, .int (σ 34 9), .ref 42, .ref 43, .ref 44, .int (σ 34 13), .int v, .ref 45, .ref 46, .ref 47, .int (σ 34 18), .long (τ 34 19), .long (τ 34 20), .long (τ 34 21), .long (τ 34 22), .int (σ 34 23), .int (σ 34 24), .int (σ 34 25), .ref 48])) = mc_hp σ1 τ := by subst e; rfl
theorem hs_34_18 {σ σ1 : mS} {τ : mT} {v : Int32} (e : σ1 = u2 σ 34 18 v) : (mc_hp σ τ).set 33 (.inl (6, [.ref 35, .ref 36, .int (σ 34 2), .ref 37, .ref 38, .ref 39, .int (σ 34 6), .ref 40, .ref 41, .int (σ 34 9), .ref 42, .ref 43, .ref 44, .int (σ 34 13), .int (σ 34 14), .ref 45, .ref 46, .ref 47, .int v, .long (τ 34 19), .long (τ 34 20), .long (τ 34 21), .long (τ 34 22), .int (σ 34 23), .int (σ 34 24), .int (σ 34 25), .ref 48])) = mc_hp σ1 τ := by subst e; rfl
theorem hs_34_19 {σ : mS} {τ τ1 : mT} {v : Int64} (e : τ1 = u2L τ 34 19 v) : (mc_hp σ τ).set 33 (.inl (6, [.ref 35, .ref 36, .int (σ 34 2), .ref 37, .ref 38, .ref 39, .int (σ 34 6), .ref 40, .ref 41, .int (σ 34 9), .ref 42, .ref 43, .ref 44, .int (σ 34 13), .int (σ 34 14), .ref 45, .ref 46, .ref 47, .int (σ 34 18), .long v, .long (τ 34 20), .long (τ 34 21), .long (τ 34 22), .int (σ 34 23), .int (σ 34 24), .int (σ 34 25), .ref 48])) = mc_hp σ τ1 := by subst e; rfl
theorem hs_34_20 {σ : mS} {τ τ1 : mT} {v : Int64} (e : τ1 = u2L τ 34 20 v) : (mc_hp σ τ).set 33 (.inl (6, [.ref 35, .ref 36, .int (σ 34 2), .ref 37, .ref 38, .ref 39, .int (σ 34 6), .ref 40, .ref 41, .int (σ 34 9), .ref 42, .ref 43, .ref 44, .int (σ 34 13), .int (σ 34 14), .ref 45, .ref 46, .ref 47, .int (σ 34 18), .long (τ 34 19), .long v, .long (τ 34 21), .long (τ 34 22), .int (σ 34 23), .int (σ 34 24), .int (σ 34 25), .ref 48])) = mc_hp σ τ1 := by subst e; rfl
theorem hs_34_21 {σ : mS} {τ τ1 : mT} {v : Int64} (e : τ1 = u2L τ 34 21 v) : (mc_hp σ τ).set 33 (.inl (6, [.ref 35, .ref 36, .int (σ 34 2), .ref 37, .ref 38, .ref 39, .int (σ 34 6), .ref 40, .ref 41, .int (σ 34 9), .ref 42, .ref 43, .ref 44, .int (σ 34 13), .int (σ 34 14), .ref 45, .ref 46, .ref 47, .int (σ 34 18), .long (τ 34 19), .long (τ 34 20), .long v, .long (τ 34 22), .int (σ 34 23), .int (σ 34 24), .int (σ 34 25), .ref 48])) = mc_hp σ τ1 := by subst e; rfl
theorem hs_34_22 {σ : mS} {τ τ1 : mT} {v : Int64} (e : τ1 = u2L τ 34 22 v) : (mc_hp σ τ).set 33 (.inl (6, [.ref 35, .ref 36, .int (σ 34 2), .ref 37, .ref 38, .ref 39, .int (σ 34 6), .ref 40, .ref 41, .int (σ 34 9), .ref 42, .ref 43, .ref 44, .int (σ 34 13), .int (σ 34 14), .ref 45, .ref 46, .ref 47, .int (σ 34 18), .long (τ 34 19), .long (τ 34 20), .long (τ 34 21), .long v, .int (σ 34 23), .int (σ 34 24), .int (σ 34 25), .ref 48])) = mc_hp σ τ1 := by subst e; rfl
theorem hs_34_23 {σ σ1 : mS} {τ : mT} {v : Int32} (e : σ1 = u2 σ 34 23 v) : (mc_hp σ τ).set 33 (.inl (6, [.ref 35, .ref 36, .int (σ 34 2), .ref 37, .ref 38, .ref 39, .int (σ 34 6), .ref 40, .ref 41, .int (σ 34 9), .ref 42, .ref 43, .ref 44, .int (σ 34 13), .int (σ 34 14), .ref 45, .ref 46, .ref 47, .int (σ 34 18), .long (τ 34 19), .long (τ 34 20), .long (τ 34 21), .long (τ 34 22), .int v, .int (σ 34 24), .int (σ 34 25), .ref 48])) = mc_hp σ1 τ := by subst e; rfl
theorem hs_34_24 {σ σ1 : mS} {τ : mT} {v : Int32} (e : σ1 = u2 σ 34 24 v) : (mc_hp σ τ).set 33 (.inl (6, [.ref 35, .ref 36, .int (σ 34 2), .ref 37, .ref 38, .ref 39, .int (σ 34 6), .ref 40, .ref 41, .int (σ 34 9), .ref 42, .ref 43, .ref 44, .int (σ 34 13), .int (σ 34 14), .ref 45, .ref 46, .ref 47, .int (σ 34 18), .long (τ 34 19), .long (τ 34 20), .long (τ 34 21), .long (τ 34 22), .int (σ 34 23), .int v, .int (σ 34 25), .ref 48])) = mc_hp σ1 τ := by subst e; rfl
theorem hs_34_25 {σ σ1 : mS} {τ : mT} {v : Int32} (e : σ1 = u2 σ 34 25 v) : (mc_hp σ τ).set 33 (.inl (6, [.ref 35, .ref 36, .int (σ 34 2), .ref 37, .ref 38, .ref 39, .int (σ 34 6), .ref 40, .ref 41, .int (σ 34 9), .ref 42, .ref 43, .ref 44, .int (σ 34 13), .int (σ 34 14), .ref 45, .ref 46, .ref 47, .int (σ 34 18), .long (τ 34 19), .long (τ 34 20), .long (τ 34 21), .long (τ 34 22), .int (σ 34 23), .int (σ 34 24), .int v, .ref 48])) = mc_hp σ1 τ := by subst e; rfl
theorem ha_35 (σ : mS) (τ : mT) : (mc_hp σ τ)[34]? = some (.inr (.inl (.int, 21, σ 35))) := rfl
theorem hs_35 {σ σ1 : mS} {τ : mT} {i : Nat} {v : Int32} (e : σ1 = u2 σ 35 i v) : (mc_hp σ τ).set 34 (.inr (.inl (.int, 21, upd (σ 35) i v))) = mc_hp σ1 τ := by subst e; rfl
theorem hc_35 {σ σ1 : mS} {τ : mT} {f : Nat → Int32} (e : σ1 = u1 σ 35 f) : (mc_hp σ τ).set 34 (.inr (.inl (.int, 21, f))) = mc_hp σ1 τ := by subst e; rfl
theorem ha_36 (σ : mS) (τ : mT) : (mc_hp σ τ)[35]? = some (.inr (.inl (.int, 126, σ 36))) := rfl
theorem hs_36 {σ σ1 : mS} {τ : mT} {i : Nat} {v : Int32} (e : σ1 = u2 σ 36 i v) : (mc_hp σ τ).set 35 (.inr (.inl (.int, 126, upd (σ 36) i v))) = mc_hp σ1 τ := by subst e; rfl
theorem hc_36 {σ σ1 : mS} {τ : mT} {f : Nat → Int32} (e : σ1 = u1 σ 36 f) : (mc_hp σ τ).set 35 (.inr (.inl (.int, 126, f))) = mc_hp σ1 τ := by subst e; rfl
theorem ha_37 (σ : mS) (τ : mT) : (mc_hp σ τ)[36]? = some (.inr (.inl (.int, 42, σ 37))) := rfl
theorem hs_37 {σ σ1 : mS} {τ : mT} {i : Nat} {v : Int32} (e : σ1 = u2 σ 37 i v) : (mc_hp σ τ).set 36 (.inr (.inl (.int, 42, upd (σ 37) i v))) = mc_hp σ1 τ := by subst e; rfl
theorem hc_37 {σ σ1 : mS} {τ : mT} {f : Nat → Int32} (e : σ1 = u1 σ 37 f) : (mc_hp σ τ).set 36 (.inr (.inl (.int, 42, f))) = mc_hp σ1 τ := by subst e; rfl
theorem ha_38 (σ : mS) (τ : mT) : (mc_hp σ τ)[37]? = some (.inr (.inl (.boolean, 2, σ 38))) := rfl
theorem hs_38 {σ σ1 : mS} {τ : mT} {i : Nat} {v : Int32} (e : σ1 = u2 σ 38 i v) : (mc_hp σ τ).set 37 (.inr (.inl (.boolean, 2, upd (σ 38) i v))) = mc_hp σ1 τ := by subst e; rfl
theorem ha_39 (σ : mS) (τ : mT) : (mc_hp σ τ)[38]? = some (.inr (.inl (.int, 120, σ 39))) := rfl
theorem hs_39 {σ σ1 : mS} {τ : mT} {i : Nat} {v : Int32} (e : σ1 = u2 σ 39 i v) : (mc_hp σ τ).set 38 (.inr (.inl (.int, 120, upd (σ 39) i v))) = mc_hp σ1 τ := by subst e; rfl
theorem hc_39 {σ σ1 : mS} {τ : mT} {f : Nat → Int32} (e : σ1 = u1 σ 39 f) : (mc_hp σ τ).set 38 (.inr (.inl (.int, 120, f))) = mc_hp σ1 τ := by subst e; rfl
theorem ha_40 (σ : mS) (τ : mT) : (mc_hp σ τ)[39]? = some (.inr (.inl (.int, 4, σ 40))) := rfl
theorem hs_40 {σ σ1 : mS} {τ : mT} {i : Nat} {v : Int32} (e : σ1 = u2 σ 40 i v) : (mc_hp σ τ).set 39 (.inr (.inl (.int, 4, upd (σ 40) i v))) = mc_hp σ1 τ := by subst e; rfl
theorem hc_40 {σ σ1 : mS} {τ : mT} {f : Nat → Int32} (e : σ1 = u1 σ 40 f) : (mc_hp σ τ).set 39 (.inr (.inl (.int, 4, f))) = mc_hp σ1 τ := by subst e; rfl
theorem ha_41 (σ : mS) (τ : mT) : (mc_hp σ τ)[40]? = some (.inr (.inl (.int, 4, σ 41))) := rfl
theorem hs_41 {σ σ1 : mS} {τ : mT} {i : Nat} {v : Int32} (e : σ1 = u2 σ 41 i v) : (mc_hp σ τ).set 40 (.inr (.inl (.int, 4, upd (σ 41) i v))) = mc_hp σ1 τ := by subst e; rfl
theorem hc_41 {σ σ1 : mS} {τ : mT} {f : Nat → Int32} (e : σ1 = u1 σ 41 f) : (mc_hp σ τ).set 40 (.inr (.inl (.int, 4, f))) = mc_hp σ1 τ := by subst e; rfl
theorem ha_42 (σ : mS) (τ : mT) : (mc_hp σ τ)[41]? = some (.inr (.inl (.int, 16, σ 42))) := rfl
theorem hs_42 {σ σ1 : mS} {τ : mT} {i : Nat} {v : Int32} (e : σ1 = u2 σ 42 i v) : (mc_hp σ τ).set 41 (.inr (.inl (.int, 16, upd (σ 42) i v))) = mc_hp σ1 τ := by subst e; rfl
theorem hc_42 {σ σ1 : mS} {τ : mT} {f : Nat → Int32} (e : σ1 = u1 σ 42 f) : (mc_hp σ τ).set 41 (.inr (.inl (.int, 16, f))) = mc_hp σ1 τ := by subst e; rfl
theorem ha_43 (σ : mS) (τ : mT) : (mc_hp σ τ)[42]? = some (.inr (.inl (.int, 16, σ 43))) := rfl
theorem hs_43 {σ σ1 : mS} {τ : mT} {i : Nat} {v : Int32} (e : σ1 = u2 σ 43 i v) : (mc_hp σ τ).set 42 (.inr (.inl (.int, 16, upd (σ 43) i v))) = mc_hp σ1 τ := by subst e; rfl
theorem hc_43 {σ σ1 : mS} {τ : mT} {f : Nat → Int32} (e : σ1 = u1 σ 43 f) : (mc_hp σ τ).set 42 (.inr (.inl (.int, 16, f))) = mc_hp σ1 τ := by subst e; rfl
theorem ha_44 (σ : mS) (τ : mT) : (mc_hp σ τ)[43]? = some (.inr (.inl (.int, 16, σ 44))) := rfl
theorem hs_44 {σ σ1 : mS} {τ : mT} {i : Nat} {v : Int32} (e : σ1 = u2 σ 44 i v) : (mc_hp σ τ).set 43 (.inr (.inl (.int, 16, upd (σ 44) i v))) = mc_hp σ1 τ := by subst e; rfl
theorem hc_44 {σ σ1 : mS} {τ : mT} {f : Nat → Int32} (e : σ1 = u1 σ 44 f) : (mc_hp σ τ).set 43 (.inr (.inl (.int, 16, f))) = mc_hp σ1 τ := by subst e; rfl
theorem ha_45 (σ : mS) (τ : mT) : (mc_hp σ τ)[44]? = some (.inr (.inr (.inl (128, τ 45)))) := rfl
theorem hs_45 {σ : mS} {τ τ1 : mT} {i : Nat} {v : Int64} (e : τ1 = u2L τ 45 i v) : (mc_hp σ τ).set 44 (.inr (.inr (.inl (128, vp_updL (τ 45) i v)))) = mc_hp σ τ1 := by subst e; rfl
theorem ha_46 (σ : mS) (τ : mT) : (mc_hp σ τ)[45]? = some (.inr (.inr (.inl (8, τ 46)))) := rfl
theorem hs_46 {σ : mS} {τ τ1 : mT} {i : Nat} {v : Int64} (e : τ1 = u2L τ 46 i v) : (mc_hp σ τ).set 45 (.inr (.inr (.inl (8, vp_updL (τ 46) i v)))) = mc_hp σ τ1 := by subst e; rfl
theorem ha_47 (σ : mS) (τ : mT) : (mc_hp σ τ)[46]? = some (.inr (.inr (.inl (72, τ 47)))) := rfl
theorem hs_47 {σ : mS} {τ τ1 : mT} {i : Nat} {v : Int64} (e : τ1 = u2L τ 47 i v) : (mc_hp σ τ).set 46 (.inr (.inr (.inl (72, vp_updL (τ 47) i v)))) = mc_hp σ τ1 := by subst e; rfl
theorem ha_48 (σ : mS) (τ : mT) : (mc_hp σ τ)[47]? = some (.inr (.inl (.int, 21, σ 48))) := rfl
theorem hs_48 {σ σ1 : mS} {τ : mT} {i : Nat} {v : Int32} (e : σ1 = u2 σ 48 i v) : (mc_hp σ τ).set 47 (.inr (.inl (.int, 21, upd (σ 48) i v))) = mc_hp σ1 τ := by subst e; rfl
theorem hc_48 {σ σ1 : mS} {τ : mT} {f : Nat → Int32} (e : σ1 = u1 σ 48 f) : (mc_hp σ τ).set 47 (.inr (.inl (.int, 21, f))) = mc_hp σ1 τ := by subst e; rfl
/-! the rows of the grid -/
theorem gr_some {i : Int32} (hi : vp_in i 8) : (if i.toNatClampNeg < 8 then some (17 + i.toNatClampNeg) else none) = some (17 + i.toNatClampNeg) := if_pos (Nat.not_le.mp fun q => hi (Or.inr q))
theorem gr_at (σ : mS) (τ : mT) {x : Nat} (hx : x < 8) : (mc_hp σ τ)[16 + x]? = some (.inr (.inr (.inl (14, τ (17 + x))))) := by
  match x, hx with
  | 0, _ => rfl
  | 1, _ => rfl
  | 2, _ => rfl
  | 3, _ => rfl
  | 4, _ => rfl
  | 5, _ => rfl
  | 6, _ => rfl
  | 7, _ => rfl
  | x + 8, h => exact absurd h (by omega)
theorem gr_set {σ : mS} {τ τ1 : mT} {x j : Nat} {v : Int64} (hx : x < 8) (e : τ1 = u2L τ (17 + x) j v) : (mc_hp σ τ).set (16 + x) (.inr (.inr (.inl (14, vp_updL (τ (17 + x)) j v)))) = mc_hp σ τ1 := by
  subst e
  match x, hx with
  | 0, _ => rfl
  | 1, _ => rfl
  | 2, _ => rfl
  | 3, _ => rfl
  | 4, _ => rfl
  | 5, _ => rfl
  | 6, _ => rfl
  | 7, _ => rfl
  | x + 8, h => exact absurd h (by omega)
section MY
variable {Mt : mc_M} {d : Nat} {scr : Option (Nat × (Nat → Int32))} {pc : Nat} {loc stk : List Value} {r : Option Value} {h' : mc_H} {nc ns : Nat} {σ : mS} {τ τ1 : mT}
theorem mr_gld {i j : Int32} (hd : decode Mt.2.1 pc = .ok (.laload, 1)) (gi : vp_in i 8) (gj : vp_in j 14) (k : mc_V Mt d scr (pc + 1) loc (.long (τ (17 + i.toNatClampNeg) j.toNatClampNeg) :: stk) (mc_hp σ τ) r h' nc ns) : mc_V Mt d scr pc loc (.int j :: .ref (17 + i.toNatClampNeg) :: stk) (mc_hp σ τ) r h' nc ns := by
  have hx : i.toNatClampNeg < 8 := Nat.not_le.mp fun q => gi (Or.inr q)
  have e : 17 + i.toNatClampNeg = 16 + i.toNatClampNeg + 1 := by omega
  have k1 := mr_lald (a := 16 + i.toNatClampNeg) (i := j) hd (gr_at σ τ hx) gj k
  rw [e]
  exact k1
theorem mr_gst {i j : Int32} {v : Int64} (hd : decode Mt.2.1 pc = .ok (.lastore, 1)) (gi : vp_in i 8) (gj : vp_in j 14) (e1 : τ1 = u2L τ (17 + i.toNatClampNeg) j.toNatClampNeg v) (k : mc_V Mt d scr (pc + 1) loc stk (mc_hp σ τ1) r h' nc ns) : mc_V Mt d scr pc loc (.long v :: .int j :: .ref (17 + i.toNatClampNeg) :: stk) (mc_hp σ τ) r h' nc ns := by
  have hx : i.toNatClampNeg < 8 := Nat.not_le.mp fun q => gi (Or.inr q)
  have e : 17 + i.toNatClampNeg = 16 + i.toNatClampNeg + 1 := by omega
  have k1 := mr_last (a := 16 + i.toNatClampNeg) (i := j) (x := v) hd (gr_at σ τ hx) gj (mc_V.heap (gr_set hx e1) k)
  rw [e]
  exact k1
end MY
end
section
def R_within (p0 : Int32) (p1 : Int32) (p2 : Int32) (σ : mS) (τ : mT) : Option (Int32 × mS × mT) :=
  if p0 < p1 then (some ((0 : Int32), σ, τ)) else (if p2 < p0 then (some ((0 : Int32), σ, τ)) else (some ((1 : Int32), σ, τ)))
def T_append (p1 : Int32) (σ : mS) (τ : mT) : Option (Int32 × mS × mT) :=
  if (σ 27 1) < (120 : Int32) then (if (σ 27 1) < 0 ∨ 120 ≤ (σ 27 1).toNatClampNeg then none else mw (u2 σ 28 (σ 27 1).toNatClampNeg (vp_nar .short (p1.toInt16.toInt32))) fun σ3 => mw (u2 σ3 27 1 ((σ3 27 1) + (1 : Int32))) fun σ4 => some ((1 : Int32), σ4, τ)) else (some ((0 : Int32), σ, τ))
def T_length (σ : mS) (τ : mT) : Option (Int32 × mS × mT) :=
  some (σ 27 1, σ, τ)
def R_type (p1 : Int32) (σ : mS) (τ : mT) : Option (Int32 × mS × mT) :=
  ob (R_within p1 (0 : Int32) (255 : Int32) σ τ) fun r1 σ1 τ1 => if r1 = 0 then (some ((-1 : Int32), σ1, τ1)) else (ob (T_append p1 σ1 τ1) fun r3 σ3 τ3 => if r3 = 0 then (some ((-3 : Int32), σ3, τ3)) else (ob (T_length σ3 τ3) fun r5 σ5 τ5 => some (r5, σ5, τ5)))
def Q_within (p0 : Int32) (p1 : Int32) (p2 : Int32) (σ : mS) (τ : mT) : Option (Int32 × mS × mT) :=
  if p0 < p1 then (some ((0 : Int32), σ, τ)) else (if p2 < p0 then (some ((0 : Int32), σ, τ)) else (some ((1 : Int32), σ, τ)))
def Q_type (p1 : Int32) (σ : mS) (τ : mT) : Option (Int32 × mS × mT) :=
  ob (Q_within p1 (0 : Int32) (255 : Int32) σ τ) fun r1 σ1 τ1 => if r1 = 0 then (some ((-1 : Int32), σ1, τ1)) else (if (σ1 34 6) = (120 : Int32) then (some ((-3 : Int32), σ1, τ1)) else (if (σ1 34 6) < 0 ∨ 120 ≤ (σ1 34 6).toNatClampNeg then none else mw (u2 σ1 39 (σ1 34 6).toNatClampNeg p1) fun σ5 => mw (u2 σ5 34 6 ((σ5 34 6) + (1 : Int32))) fun σ6 => some (σ6 34 6, σ6, τ1)))
def T_wipe (σ : mS) (τ : mT) : Option (mS × mT) :=
  mw (u2 σ 27 1 (0 : Int32)) fun σ1 => some (σ1, τ)
def R_clear (σ : mS) (τ : mT) : Option (Int32 × mS × mT) :=
  ob (T_length σ τ) fun r1 σ1 τ1 => ov (T_wipe σ1 τ1) fun σ2 τ2 => some (r1, σ2, τ2)
def Q_clear (σ : mS) (τ : mT) : Option (Int32 × mS × mT) :=
  mw (u2 σ 34 6 (0 : Int32)) fun σ1 => some (σ 34 6, σ1, τ)
def P_empty_4 (σ : mS) (τ : mT) : Option (mS × mT) :=
  mw (u2 σ 5 20 (0 : Int32)) fun σ1 => some (σ1, τ)
def T_next (σ : mS) (τ : mT) : Option (Int32 × mS × mT) :=
  if (σ 27 2) < 0 then (some ((-1 : Int32), σ, τ)) else (if (σ 27 1) ≤ (σ 27 2) then (some ((-1 : Int32), σ, τ)) else (if (120 : Int32) ≤ (σ 27 2) then (some ((-1 : Int32), σ, τ)) else (if (σ 27 2) < 0 ∨ 120 ≤ (σ 27 2).toNatClampNeg then none else some (σ 28 (σ 27 2).toNatClampNeg, σ, τ))))
def T_skipBlanks_l0 : Nat → mS → mT → Option (mS × mT)
  | 0, _, _ => none
  | n + 1, σ, τ =>
    if (σ 27 1) ≤ (σ 27 2) then (some (σ, τ)) else (ob (T_next σ τ) fun r2 σ2 τ2 => if r2 = (32 : Int32) then (mw (u2 σ2 27 2 ((σ2 27 2) + (1 : Int32))) fun σ4 => T_skipBlanks_l0 n σ4 τ2) else (some (σ2, τ2)))
def T_skipBlanks (σ : mS) (τ : mT) : Option (mS × mT) :=
  T_skipBlanks_l0 mc_F σ τ
def P_size_4 (σ : mS) (τ : mT) : Option (Int32 × mS × mT) :=
  some (σ 5 20, σ, τ)
def T_isFigure (p0 : Int32) (σ : mS) (τ : mT) : Option (Int32 × mS × mT) :=
  ob (R_within p0 (48 : Int32) (57 : Int32) σ τ) fun r1 σ1 τ1 => if ¬ r1 &&& 1 = r1 then none else some (r1, σ1, τ1)
def T_readNumber_b127 (x3 : Int32) (σ : mS) (τ : mT) : Option (Int32 × mS × mT) :=
  mw (u2 σ 27 2 x3) fun σ1 => some ((-1 : Int32), σ1, τ)
def T_readNumber_b102 (x1 : Int32) (x2 : Int32) (x3 : Int32) (x5 : Int32) (s0 : Int32) (σ : mS) (τ : mT) : Option (Int32 × mS × mT) :=
  if (σ 27 2) = x3 then (T_readNumber_b127 x3 σ τ) else (if s0 = 0 then (ob (R_within x5 x1 x2 σ τ) fun r3 σ3 τ3 => if r3 = 0 then (T_readNumber_b127 x3 σ3 τ3) else (some (x5, σ3, τ3))) else (T_readNumber_b127 x3 σ τ))
def T_readNumber_b101 (x1 : Int32) (x2 : Int32) (x3 : Int32) (x5 : Int32) (σ : mS) (τ : mT) : Option (Int32 × mS × mT) :=
  T_readNumber_b102 x1 x2 x3 x5 (0 : Int32) σ τ
def T_readNumber_b82 (x1 : Int32) (x2 : Int32) (x3 : Int32) (x4 : Int32) (x5 : Int32) (σ : mS) (τ : mT) : Option (Int32 × mS × mT) :=
  if x4 = 0 then (T_readNumber_b101 x1 x2 x3 x5 σ τ) else (if ((σ 27 2) - x3) ≤ (1 : Int32) then (T_readNumber_b101 x1 x2 x3 x5 σ τ) else (T_readNumber_b102 x1 x2 x3 x5 (1 : Int32) σ τ))
def T_readNumber_l28 : Nat → Int32 → Int32 → Int32 → Int32 → Int32 → mS → mT → Option (Int32 × mS × mT)
  | 0, _, _, _, _, _, _, _ => none
  | n + 1, x1, x2, x3, x4, x5, σ, τ =>
    if (σ 27 1) ≤ (σ 27 2) then (T_readNumber_b82 x1 x2 x3 x4 x5 σ τ) else (ob (T_next σ τ) fun r2 σ2 τ2 => ob (T_isFigure r2 σ2 τ2) fun r3 σ3 τ3 => if r3 = 0 then (T_readNumber_b82 x1 x2 x3 x4 x5 σ3 τ3) else (ob (T_next σ3 τ3) fun r5 σ5 τ5 => mw (u2 σ5 27 2 ((σ5 27 2) + (1 : Int32))) fun σ6 => T_readNumber_l28 n x1 x2 x3 x4 (jmin ((((10 : Int32) * x5) + r5) - (48 : Int32)) (100 : Int32)) σ6 τ5))
def T_readNumber (p1 : Int32) (p2 : Int32) (σ : mS) (τ : mT) : Option (Int32 × mS × mT) :=
  ov (T_skipBlanks σ τ) fun σ1 τ1 => ob (T_next σ1 τ1) fun r2 σ2 τ2 => if r2 = (48 : Int32) then (T_readNumber_l28 mc_F p1 p2 (σ1 27 2) (1 : Int32) (0 : Int32) σ2 τ2) else (T_readNumber_l28 mc_F p1 p2 (σ1 27 2) (0 : Int32) (0 : Int32) σ2 τ2)
def T_readEnd (σ : mS) (τ : mT) : Option (Int32 × mS × mT) :=
  ov (T_skipBlanks σ τ) fun σ1 τ1 => ob (T_next σ1 τ1) fun r2 σ2 τ2 => if r2 = (59 : Int32) then (mw (u2 σ2 27 2 ((σ2 27 2) + (1 : Int32))) fun σ4 => some ((1 : Int32), σ4, τ2)) else (some ((0 : Int32), σ2, τ2))
def P_has_4 (p1 : Int32) (σ : mS) (τ : mT) : Option (Int32 × mS × mT) :=
  if p1 < 0 then (some ((0 : Int32), σ, τ)) else (if (σ 5 20) ≤ p1 then (some ((0 : Int32), σ, τ)) else (if (4 : Int32) ≤ p1 then (some ((0 : Int32), σ, τ)) else (some ((1 : Int32), σ, τ))))
def P_set_4 (p1 : Int32) (p2 : Int32) (p3 : Int32) (σ : mS) (τ : mT) : Option (mS × mT) :=
  ob (P_has_4 p1 σ τ) fun r1 σ1 τ1 => if r1 = 0 then (some (σ1, τ1)) else (ob (R_within p2 (0 : Int32) (4 : Int32) σ1 τ1) fun r3 σ3 τ3 => if r3 = 0 then (some (σ3, τ3)) else (if ((p1 * (5 : Int32)) + p2) < 0 ∨ 21 ≤ ((p1 * (5 : Int32)) + p2).toNatClampNeg then none else mw (u2 σ3 5 ((p1 * (5 : Int32)) + p2).toNatClampNeg p3) fun σ6 => some (σ6, τ3)))
def P_add_4 (p1 : Int32) (p2 : Int32) (p3 : Int32) (σ : mS) (τ : mT) : Option (mS × mT) :=
  ob (P_size_4 σ τ) fun r1 σ1 τ1 => if r1 < (4 : Int32) then (mw (u2 σ1 5 20 (r1 + (1 : Int32))) fun σ3 => ov (P_set_4 r1 (0 : Int32) p1 σ3 τ1) fun σ4 τ4 => ov (P_set_4 r1 (1 : Int32) p2 σ4 τ4) fun σ5 τ5 => ov (P_set_4 r1 (2 : Int32) p3 σ5 τ5) fun σ6 τ6 => ov (P_set_4 r1 (3 : Int32) (0 : Int32) σ6 τ6) fun σ7 τ7 => ov (P_set_4 r1 (4 : Int32) (0 : Int32) σ7 τ7) fun σ8 τ8 => some (σ8, τ8)) else (some (σ1, τ1))
def T_readBlock_4 (σ : mS) (τ : mT) : Option (Int32 × mS × mT) :=
  ob (P_size_4 σ τ) fun r1 σ1 τ1 => if r1 < (4 : Int32) then (mw (u2 σ1 27 2 ((σ1 27 2) + (1 : Int32))) fun σ3 => ob (T_readNumber (0 : Int32) (9 : Int32) σ3 τ1) fun r4 σ4 τ4 => if 0 ≤ r4 then (ob (T_readNumber (1 : Int32) (3 : Int32) σ4 τ4) fun r6 σ6 τ6 => if 0 ≤ r6 then (ob (T_readNumber (1 : Int32) (9 : Int32) σ6 τ6) fun r8 σ8 τ8 => if r8 < 0 then (some ((0 : Int32), σ8, τ8)) else (ob (T_readEnd σ8 τ8) fun r10 σ10 τ10 => if r10 = 0 then (some ((0 : Int32), σ10, τ10)) else (ov (P_add_4 r4 r6 r8 σ10 τ10) fun σ12 τ12 => some ((1 : Int32), σ12, τ12)))) else (some ((0 : Int32), σ6, τ6))) else (some ((0 : Int32), σ4, τ4))) else (some ((0 : Int32), σ1, τ1))
def P_get_4 (p1 : Int32) (p2 : Int32) (σ : mS) (τ : mT) : Option (Int32 × mS × mT) :=
  ob (P_has_4 p1 σ τ) fun r1 σ1 τ1 => if r1 = 0 then (some ((0 : Int32), σ1, τ1)) else (ob (R_within p2 (0 : Int32) (4 : Int32) σ1 τ1) fun r3 σ3 τ3 => if r3 = 0 then (some ((0 : Int32), σ3, τ3)) else (if ((p1 * (5 : Int32)) + p2) < 0 ∨ 21 ≤ ((p1 * (5 : Int32)) + p2).toNatClampNeg then none else some (σ3 5 ((p1 * (5 : Int32)) + p2).toNatClampNeg, σ3, τ3)))
def T_readLoad_4 (σ : mS) (τ : mT) : Option (Int32 × mS × mT) :=
  mw (u2 σ 27 2 ((σ 27 2) + (1 : Int32))) fun σ1 => ob (P_size_4 σ1 τ) fun r2 σ2 τ2 => ob (T_readNumber (0 : Int32) (r2 - (1 : Int32)) σ2 τ2) fun r3 σ3 τ3 => if 0 ≤ r3 then (ob (P_get_4 r3 (1 : Int32) σ3 τ3) fun r5 σ5 τ5 => ob (T_readNumber (0 : Int32) ((2 : Int32) * r5) σ5 τ5) fun r6 σ6 τ6 => if 0 ≤ r6 then (ob (T_readNumber (0 : Int32) (20 : Int32) σ6 τ6) fun r8 σ8 τ8 => if r8 < 0 then (some ((0 : Int32), σ8, τ8)) else (ob (T_readEnd σ8 τ8) fun r10 σ10 τ10 => if r10 = 0 then (some ((0 : Int32), σ10, τ10)) else (ov (P_set_4 r3 (4 : Int32) r6 σ10 τ10) fun σ12 τ12 => ov (P_set_4 r3 (3 : Int32) r8 σ12 τ12) fun σ13 τ13 => some ((1 : Int32), σ13, τ13)))) else (some ((0 : Int32), σ6, τ6))) else (some ((0 : Int32), σ3, τ3))
def T_readItem_4 (σ : mS) (τ : mT) : Option (Int32 × mS × mT) :=
  ob (T_next σ τ) fun r1 σ1 τ1 => if r1 = 98 then (ob (T_readBlock_4 σ1 τ1) fun r3 σ3 τ3 => if ¬ r3 &&& 1 = r3 then none else some (r3, σ3, τ3)) else if r1 = 108 then (ob (T_readLoad_4 σ1 τ1) fun r6 σ6 τ6 => if ¬ r6 &&& 1 = r6 then none else some (r6, σ6, τ6)) else (some ((0 : Int32), σ1, τ1))
def T_readInto_4_l11 : Nat → Int32 → mS → mT → Option (Int32 × mS × mT)
  | 0, _, _, _ => none
  | n + 1, x2, σ, τ =>
    if (120 : Int32) < x2 then (some ((-1 : Int32), σ, τ)) else (ov (T_skipBlanks σ τ) fun σ2 τ2 => if (σ2 27 2) < (σ2 27 1) then (ob (T_readItem_4 σ2 τ2) fun r4 σ4 τ4 => if r4 = 0 then (some ((-1 : Int32), σ4, τ4)) else (T_readInto_4_l11 n (x2 + (1 : Int32)) σ4 τ4)) else (some (x2, σ2, τ2)))
def T_readInto_4 (σ : mS) (τ : mT) : Option (Int32 × mS × mT) :=
  ov (P_empty_4 σ τ) fun σ1 τ1 => mw (u2 σ1 27 2 (0 : Int32)) fun σ2 => T_readInto_4_l11 mc_F (0 : Int32) σ2 τ1
def S_write_29_2 (p1 : Int32) (σ : mS) (τ : mT) : Option (mS × mT) :=
  ob (R_within p1 (0 : Int32) ((6 : Int32) - (1 : Int32)) σ τ) fun r1 σ1 τ1 => if r1 = 0 then (some (σ1, τ1)) else (if (p1 * (21 : Int32)) < 0 then none else if 126 < (p1 * (21 : Int32)).toNatClampNeg + 21 then none else mw (u1 σ1 30 (va_cpy (σ1 3) (σ1 30) 0 (p1 * (21 : Int32)).toNatClampNeg 21)) fun σ5 => some (σ5, τ1))
def S_forgetFirst_29 (σ : mS) (τ : mT) : Option (mS × mT) :=
  if (((6 : Int32) - (1 : Int32)) * (21 : Int32)) < 0 then none else if 126 < 21 + (((6 : Int32) - (1 : Int32)) * (21 : Int32)).toNatClampNeg then none else if 126 < 0 + (((6 : Int32) - (1 : Int32)) * (21 : Int32)).toNatClampNeg then none else mw (u1 σ 30 (va_cpy (σ 30) (σ 30) 21 0 (((6 : Int32) - (1 : Int32)) * (21 : Int32)).toNatClampNeg)) fun σ4 => some (σ4, τ)
def R_remember_b21 (σ : mS) (τ : mT) : Option (mS × mT) :=
  ov (S_write_29_2 (σ 1 8) σ τ) fun σ1 τ1 => mw (u2 σ1 1 8 ((σ1 1 8) + (1 : Int32))) fun σ2 => some (σ2, τ1)
def R_remember (σ : mS) (τ : mT) : Option (mS × mT) :=
  if (σ 1 8) < (6 : Int32) then (R_remember_b21 σ τ) else (ov (S_forgetFirst_29 σ τ) fun σ2 τ2 => mw (u2 σ2 1 8 (5 : Int32)) fun σ3 => R_remember_b21 σ3 τ2)
def P_copy_2_4 (σ : mS) (τ : mT) : Option (mS × mT) :=
  mw (u1 σ 3 (va_cpy (σ 5) (σ 3) 0 0 21)) fun σ1 => some (σ1, τ)
def T_place (σ : mS) (τ : mT) : Option (Int32 × mS × mT) :=
  some (σ 27 2, σ, τ)
def R_tells (σ : mS) (τ : mT) : Option (Int32 × mS × mT) :=
  ob (T_readInto_4 σ τ) fun r1 σ1 τ1 => if 0 ≤ r1 then (ov (R_remember σ1 τ1) fun σ3 τ3 => ov (P_copy_2_4 σ3 τ3) fun σ4 τ4 => ov (T_wipe σ4 τ4) fun σ5 τ5 => some (r1, σ5, τ5)) else (ob (T_place σ1 τ1) fun r6 σ6 τ6 => some ((-10 : Int32) - r6, σ6, τ6))
def Q_lays_48_l2 : Nat → Int32 → Int32 → mS → mT → Option (mS × mT)
  | 0, _, _, _, _ => none
  | n + 1, x2, x3, σ, τ =>
    if (21 : Int32) ≤ x3 then (some (σ, τ)) else (if x3 < 0 ∨ 21 ≤ x3.toNatClampNeg then none else if (x2 + x3) < 0 ∨ 21 ≤ (x2 + x3).toNatClampNeg then none else mw (u2 σ 48 (x2 + x3).toNatClampNeg (σ 35 x3.toNatClampNeg)) fun σ4 => Q_lays_48_l2 n x2 (x3 + (1 : Int32)) σ4 τ)
def Q_lays_48 (p2 : Int32) (σ : mS) (τ : mT) : Option (mS × mT) :=
  Q_lays_48_l2 mc_F p2 (0 : Int32) σ τ
def Q_skips_b38 (σ : mS) (τ : mT) : Option (mS × mT) :=
  mw (u2 σ 34 24 (σ 34 23)) fun σ1 => some (σ1, τ)
def Q_skips_l0 : Nat → mS → mT → Option (mS × mT)
  | 0, _, _ => none
  | n + 1, σ, τ =>
    if (σ 34 6) ≤ (σ 34 23) then (Q_skips_b38 σ τ) else (if (σ 34 23) < 0 ∨ 120 ≤ (σ 34 23).toNatClampNeg then none else if (σ 39 (σ 34 23).toNatClampNeg) = (32 : Int32) then (mw (u2 σ 34 23 ((σ 34 23) + (1 : Int32))) fun σ4 => Q_skips_l0 n σ4 τ) else (Q_skips_b38 σ τ))
def Q_skips (σ : mS) (τ : mT) : Option (mS × mT) :=
  Q_skips_l0 mc_F σ τ
def Q_passes_b33 (s0 : Int32) (σ : mS) (τ : mT) : Option (Int32 × mS × mT) :=
  if s0 = 0 then (mw (u2 σ 34 23 ((σ 34 23) + (0 : Int32))) fun σ2 => if ¬ s0 &&& 1 = s0 then none else some (s0, σ2, τ)) else (mw (u2 σ 34 23 ((σ 34 23) + (1 : Int32))) fun σ4 => if ¬ s0 &&& 1 = s0 then none else some (s0, σ4, τ))
def Q_passes_b32 (σ : mS) (τ : mT) : Option (Int32 × mS × mT) :=
  Q_passes_b33 (0 : Int32) σ τ
def Q_passes (p1 : Int32) (σ : mS) (τ : mT) : Option (Int32 × mS × mT) :=
  ov (Q_skips σ τ) fun σ1 τ1 => if (σ1 34 6) ≤ (σ1 34 23) then (Q_passes_b32 σ1 τ1) else (if (σ1 34 23) < 0 ∨ 120 ≤ (σ1 34 23).toNatClampNeg then none else if (σ1 39 (σ1 34 23).toNatClampNeg) = p1 then (Q_passes_b33 (1 : Int32) σ1 τ1) else (Q_passes_b32 σ1 τ1))
def Q_isFigure (σ : mS) (τ : mT) : Option (Int32 × mS × mT) :=
  if (σ 34 6) ≤ (σ 34 23) then (some ((0 : Int32), σ, τ)) else (if (σ 34 23) < 0 ∨ 120 ≤ (σ 34 23).toNatClampNeg then none else ob (Q_within (σ 39 (σ 34 23).toNatClampNeg) (48 : Int32) (57 : Int32) σ τ) fun r3 σ3 τ3 => if r3 = 0 then (some ((0 : Int32), σ3, τ3)) else (some ((1 : Int32), σ3, τ3)))
def Q_number_b106 (x3 : Int32) (s0 : Int32) (σ : mS) (τ : mT) : Option (Int32 × mS × mT) :=
  if s0 = 0 then (some ((-1 : Int32), σ, τ)) else (some (x3, σ, τ))
def Q_number_b105 (x3 : Int32) (σ : mS) (τ : mT) : Option (Int32 × mS × mT) :=
  Q_number_b106 x3 (0 : Int32) σ τ
def Q_number_b92 (x1 : Int32) (x2 : Int32) (x3 : Int32) (σ : mS) (τ : mT) : Option (Int32 × mS × mT) :=
  ob (Q_within x3 x1 x2 σ τ) fun r1 σ1 τ1 => if r1 = 0 then (Q_number_b105 x3 σ1 τ1) else (Q_number_b106 x3 (1 : Int32) σ1 τ1)
def Q_number_b44 (k9 : Int32 → Int32 → Int32 → Int32 → mS → mT → Option (Int32 × mS × mT)) (x1 : Int32) (x2 : Int32) (x4 : Int32) (s0 : Int32) (σ : mS) (τ : mT) : Option (Int32 × mS × mT) :=
  mw (u2 σ 34 23 ((σ 34 23) + (1 : Int32))) fun σ1 => k9 x1 x2 s0 (x4 + (1 : Int32)) σ1 τ
def Q_number_l9 : Nat → Int32 → Int32 → Int32 → Int32 → mS → mT → Option (Int32 × mS × mT)
  | 0, _, _, _, _, _, _ => none
  | n + 1, x1, x2, x3, x4, σ, τ =>
    ob (Q_isFigure σ τ) fun r1 σ1 τ1 => if r1 = 0 then (if x4 ≤ 0 then (Q_number_b105 x3 σ1 τ1) else (if (99 : Int32) < x3 then (Q_number_b105 x3 σ1 τ1) else (if x4 = (1 : Int32) then (Q_number_b92 x1 x2 x3 σ1 τ1) else (if (σ1 34 24) < 0 ∨ 120 ≤ (σ1 34 24).toNatClampNeg then none else if (σ1 39 (σ1 34 24).toNatClampNeg) = (48 : Int32) then (Q_number_b105 x3 σ1 τ1) else (Q_number_b92 x1 x2 x3 σ1 τ1))))) else (if x3 ≤ (99 : Int32) then (if (σ1 34 23) < 0 ∨ 120 ≤ (σ1 34 23).toNatClampNeg then none else Q_number_b44 (Q_number_l9 n) x1 x2 x4 ((((10 : Int32) * x3) + (σ1 39 (σ1 34 23).toNatClampNeg)) - (48 : Int32)) σ1 τ1) else (Q_number_b44 (Q_number_l9 n) x1 x2 x4 (100 : Int32) σ1 τ1))
def Q_number (p1 : Int32) (p2 : Int32) (σ : mS) (τ : mT) : Option (Int32 × mS × mT) :=
  ov (Q_skips σ τ) fun σ1 τ1 => Q_number_l9 mc_F p1 p2 (0 : Int32) (0 : Int32) σ1 τ1
def Q_get (p1 : Int32) (p2 : Int32) (σ : mS) (τ : mT) : Option (Int32 × mS × mT) :=
  if (((5 : Int32) * p1) + p2) < 0 ∨ 21 ≤ (((5 : Int32) * p1) + p2).toNatClampNeg then none else some (σ 35 (((5 : Int32) * p1) + p2).toNatClampNeg, σ, τ)
def Q_readsLoad_b51 (x1 : Int32) (x2 : Int32) (s0 : Int32) (σ : mS) (τ : mT) : Option (Int32 × mS × mT) :=
  if s0 < 0 then (some ((0 : Int32), σ, τ)) else (ob (Q_passes (59 : Int32) σ τ) fun r2 σ2 τ2 => if r2 = 0 then (some ((0 : Int32), σ2, τ2)) else (if (((5 : Int32) * x1) + (4 : Int32)) < 0 ∨ 21 ≤ (((5 : Int32) * x1) + (4 : Int32)).toNatClampNeg then none else mw (u2 σ2 35 (((5 : Int32) * x1) + (4 : Int32)).toNatClampNeg s0) fun σ5 => if (((5 : Int32) * x1) + (5 : Int32)) < 0 ∨ 21 ≤ (((5 : Int32) * x1) + (5 : Int32)).toNatClampNeg then none else mw (u2 σ5 35 (((5 : Int32) * x1) + (5 : Int32)).toNatClampNeg x2) fun σ7 => some ((1 : Int32), σ7, τ2)))
def Q_readsLoad_b35 (x1 : Int32) (s0 : Int32) (σ : mS) (τ : mT) : Option (Int32 × mS × mT) :=
  if 0 ≤ s0 then (ob (Q_number (0 : Int32) (20 : Int32) σ τ) fun r2 σ2 τ2 => Q_readsLoad_b51 x1 s0 r2 σ2 τ2) else (Q_readsLoad_b51 x1 s0 (-1 : Int32) σ τ)
def Q_readsLoad (σ : mS) (τ : mT) : Option (Int32 × mS × mT) :=
  ob (Q_number (0 : Int32) ((σ 35 0) - (1 : Int32)) σ τ) fun r1 σ1 τ1 => if 0 ≤ r1 then (ob (Q_get r1 (2 : Int32) σ1 τ1) fun r3 σ3 τ3 => ob (Q_number (0 : Int32) ((2 : Int32) * r3) σ3 τ3) fun r4 σ4 τ4 => Q_readsLoad_b35 r1 r4 σ4 τ4) else (Q_readsLoad_b35 r1 (-1 : Int32) σ1 τ1)
def Q_appends (p1 : Int32) (p2 : Int32) (p3 : Int32) (σ : mS) (τ : mT) : Option (mS × mT) :=
  if (((5 : Int32) * (σ 35 0)) + (1 : Int32)) < 0 ∨ 21 ≤ (((5 : Int32) * (σ 35 0)) + (1 : Int32)).toNatClampNeg then none else mw (u2 σ 35 (((5 : Int32) * (σ 35 0)) + (1 : Int32)).toNatClampNeg p1) fun σ2 => if (((5 : Int32) * (σ 35 0)) + (2 : Int32)) < 0 ∨ 21 ≤ (((5 : Int32) * (σ 35 0)) + (2 : Int32)).toNatClampNeg then none else mw (u2 σ2 35 (((5 : Int32) * (σ 35 0)) + (2 : Int32)).toNatClampNeg p2) fun σ4 => if (((5 : Int32) * (σ 35 0)) + (3 : Int32)) < 0 ∨ 21 ≤ (((5 : Int32) * (σ 35 0)) + (3 : Int32)).toNatClampNeg then none else mw (u2 σ4 35 (((5 : Int32) * (σ 35 0)) + (3 : Int32)).toNatClampNeg p3) fun σ6 => if (((5 : Int32) * (σ 35 0)) + (4 : Int32)) < 0 ∨ 21 ≤ (((5 : Int32) * (σ 35 0)) + (4 : Int32)).toNatClampNeg then none else mw (u2 σ6 35 (((5 : Int32) * (σ 35 0)) + (4 : Int32)).toNatClampNeg (0 : Int32)) fun σ8 => if (((5 : Int32) * (σ 35 0)) + (5 : Int32)) < 0 ∨ 21 ≤ (((5 : Int32) * (σ 35 0)) + (5 : Int32)).toNatClampNeg then none else mw (u2 σ8 35 (((5 : Int32) * (σ 35 0)) + (5 : Int32)).toNatClampNeg (0 : Int32)) fun σ10 => mw (u2 σ10 35 0 ((σ10 35 0) + (1 : Int32))) fun σ11 => some (σ11, τ)
def Q_readsBlock_b50 (x1 : Int32) (x2 : Int32) (s0 : Int32) (σ : mS) (τ : mT) : Option (Int32 × mS × mT) :=
  if s0 < 0 then (some ((0 : Int32), σ, τ)) else (ob (Q_passes (59 : Int32) σ τ) fun r2 σ2 τ2 => if r2 = 0 then (some ((0 : Int32), σ2, τ2)) else (ov (Q_appends x1 x2 s0 σ2 τ2) fun σ4 τ4 => some ((1 : Int32), σ4, τ4)))
def Q_readsBlock_b34 (x1 : Int32) (s0 : Int32) (σ : mS) (τ : mT) : Option (Int32 × mS × mT) :=
  if 0 ≤ s0 then (ob (Q_number (1 : Int32) (9 : Int32) σ τ) fun r2 σ2 τ2 => Q_readsBlock_b50 x1 s0 r2 σ2 τ2) else (Q_readsBlock_b50 x1 s0 (-1 : Int32) σ τ)
def Q_readsBlock (σ : mS) (τ : mT) : Option (Int32 × mS × mT) :=
  if (σ 35 0) = (4 : Int32) then (some ((0 : Int32), σ, τ)) else (ob (Q_number (0 : Int32) (9 : Int32) σ τ) fun r2 σ2 τ2 => if 0 ≤ r2 then (ob (Q_number (1 : Int32) (3 : Int32) σ2 τ2) fun r4 σ4 τ4 => Q_readsBlock_b34 r2 r4 σ4 τ4) else (Q_readsBlock_b34 r2 (-1 : Int32) σ2 τ2))
def Q_reads_b69 (k21 : mS → mT → Option (Int32 × mS × mT)) (s0 : Int32) (σ : mS) (τ : mT) : Option (Int32 × mS × mT) :=
  if s0 = 0 then (some ((0 : Int32), σ, τ)) else (mw (u2 σ 34 25 ((σ 34 25) + (1 : Int32))) fun σ2 => ov (Q_skips σ2 τ) fun σ3 τ3 => k21 σ3 τ3)
def Q_reads_b68 (k21 : mS → mT → Option (Int32 × mS × mT)) (σ : mS) (τ : mT) : Option (Int32 × mS × mT) :=
  Q_reads_b69 k21 (0 : Int32) σ τ
def Q_reads_l21 : Nat → mS → mT → Option (Int32 × mS × mT)
  | 0, _, _ => none
  | n + 1, σ, τ =>
    if (σ 34 6) ≤ (σ 34 23) then (some ((1 : Int32), σ, τ)) else (ob (Q_passes (98 : Int32) σ τ) fun r2 σ2 τ2 => if r2 = 0 then (ob (Q_passes (108 : Int32) σ2 τ2) fun r4 σ4 τ4 => if r4 = 0 then (Q_reads_b68 (Q_reads_l21 n) σ4 τ4) else (ob (Q_readsLoad σ4 τ4) fun r6 σ6 τ6 => if r6 = 0 then (Q_reads_b68 (Q_reads_l21 n) σ6 τ6) else (Q_reads_b69 (Q_reads_l21 n) (1 : Int32) σ6 τ6))) else (ob (Q_readsBlock σ2 τ2) fun r8 σ8 τ8 => Q_reads_b69 (Q_reads_l21 n) r8 σ8 τ8))
def Q_reads (σ : mS) (τ : mT) : Option (Int32 × mS × mT) :=
  mw (u2 σ 34 23 (0 : Int32)) fun σ1 => mw (u2 σ1 34 25 (0 : Int32)) fun σ2 => mw (u2 σ2 35 0 (0 : Int32)) fun σ3 => ov (Q_skips σ3 τ) fun σ4 τ4 => Q_reads_l21 mc_F σ4 τ4
def Q_keeps_l50 : Nat → Int32 → mS → mT → Option (mS × mT)
  | 0, _, _, _ => none
  | n + 1, x1, σ, τ =>
    if (21 : Int32) ≤ x1 then (mw (u2 σ 34 2 ((σ 34 2) + (1 : Int32))) fun σ2 => some (σ2, τ)) else (if x1 < 0 ∨ 21 ≤ x1.toNatClampNeg then none else if (((21 : Int32) * (σ 34 2)) + x1) < 0 ∨ 126 ≤ (((21 : Int32) * (σ 34 2)) + x1).toNatClampNeg then none else mw (u2 σ 36 (((21 : Int32) * (σ 34 2)) + x1).toNatClampNeg (σ 48 x1.toNatClampNeg)) fun σ5 => Q_keeps_l50 n (x1 + (1 : Int32)) σ5 τ)
def Q_keeps_l11 : Nat → Int32 → mS → mT → Option (mS × mT)
  | 0, _, _, _ => none
  | n + 1, x1, σ, τ =>
    if (105 : Int32) ≤ x1 then (mw (u2 σ 34 2 ((σ 34 2) - (1 : Int32))) fun σ2 => Q_keeps_l50 mc_F (0 : Int32) σ2 τ) else (if (x1 + (21 : Int32)) < 0 ∨ 126 ≤ (x1 + (21 : Int32)).toNatClampNeg then none else if x1 < 0 ∨ 126 ≤ x1.toNatClampNeg then none else mw (u2 σ 36 x1.toNatClampNeg (σ 36 (x1 + (21 : Int32)).toNatClampNeg)) fun σ5 => Q_keeps_l11 n (x1 + (1 : Int32)) σ5 τ)
def Q_keeps (σ : mS) (τ : mT) : Option (mS × mT) :=
  if (σ 34 2) = (6 : Int32) then (Q_keeps_l11 mc_F (0 : Int32) σ τ) else (Q_keeps_l50 mc_F (0 : Int32) σ τ)
def Q_takes_48_l2 : Nat → Int32 → Int32 → mS → mT → Option (mS × mT)
  | 0, _, _, _, _ => none
  | n + 1, x2, x3, σ, τ =>
    if (21 : Int32) ≤ x3 then (some (σ, τ)) else (if (x2 + x3) < 0 ∨ 21 ≤ (x2 + x3).toNatClampNeg then none else if x3 < 0 ∨ 21 ≤ x3.toNatClampNeg then none else mw (u2 σ 35 x3.toNatClampNeg (σ 48 (x2 + x3).toNatClampNeg)) fun σ4 => Q_takes_48_l2 n x2 (x3 + (1 : Int32)) σ4 τ)
def Q_takes_48 (p2 : Int32) (σ : mS) (τ : mT) : Option (mS × mT) :=
  Q_takes_48_l2 mc_F p2 (0 : Int32) σ τ
def Q_tells (σ : mS) (τ : mT) : Option (Int32 × mS × mT) :=
  ov (Q_lays_48 (0 : Int32) σ τ) fun σ1 τ1 => ob (Q_reads σ1 τ1) fun r2 σ2 τ2 => if r2 = 0 then (ov (Q_takes_48 (0 : Int32) σ2 τ2) fun σ6 τ6 => some ((-10 : Int32) - (σ6 34 24), σ6, τ6)) else (ov (Q_keeps σ2 τ2) fun σ4 τ4 => mw (u2 σ4 34 6 (0 : Int32)) fun σ5 => some (σ5 34 25, σ5, τ4))
def R_isBlock (p0 : Int32) (p1 : Int32) (σ : mS) (τ : mT) : Option (Int32 × mS × mT) :=
  ob (R_within p0 (1 : Int32) (3 : Int32) σ τ) fun r1 σ1 τ1 => if r1 = 0 then (some ((0 : Int32), σ1, τ1)) else (ob (R_within p1 (1 : Int32) (9 : Int32) σ1 τ1) fun r3 σ3 τ3 => if r3 = 0 then (some ((0 : Int32), σ3, τ3)) else (some ((1 : Int32), σ3, τ3)))
def P_size_2 (σ : mS) (τ : mT) : Option (Int32 × mS × mT) :=
  some (σ 3 20, σ, τ)
def P_has_2 (p1 : Int32) (σ : mS) (τ : mT) : Option (Int32 × mS × mT) :=
  if p1 < 0 then (some ((0 : Int32), σ, τ)) else (if (σ 3 20) ≤ p1 then (some ((0 : Int32), σ, τ)) else (if (4 : Int32) ≤ p1 then (some ((0 : Int32), σ, τ)) else (some ((1 : Int32), σ, τ))))
def P_set_2 (p1 : Int32) (p2 : Int32) (p3 : Int32) (σ : mS) (τ : mT) : Option (mS × mT) :=
  ob (P_has_2 p1 σ τ) fun r1 σ1 τ1 => if r1 = 0 then (some (σ1, τ1)) else (ob (R_within p2 (0 : Int32) (4 : Int32) σ1 τ1) fun r3 σ3 τ3 => if r3 = 0 then (some (σ3, τ3)) else (if ((p1 * (5 : Int32)) + p2) < 0 ∨ 21 ≤ ((p1 * (5 : Int32)) + p2).toNatClampNeg then none else mw (u2 σ3 3 ((p1 * (5 : Int32)) + p2).toNatClampNeg p3) fun σ6 => some (σ6, τ3)))
def P_add_2 (p1 : Int32) (p2 : Int32) (p3 : Int32) (σ : mS) (τ : mT) : Option (mS × mT) :=
  ob (P_size_2 σ τ) fun r1 σ1 τ1 => if r1 < (4 : Int32) then (mw (u2 σ1 3 20 (r1 + (1 : Int32))) fun σ3 => ov (P_set_2 r1 (0 : Int32) p1 σ3 τ1) fun σ4 τ4 => ov (P_set_2 r1 (1 : Int32) p2 σ4 τ4) fun σ5 τ5 => ov (P_set_2 r1 (2 : Int32) p3 σ5 τ5) fun σ6 τ6 => ov (P_set_2 r1 (3 : Int32) (0 : Int32) σ6 τ6) fun σ7 τ7 => ov (P_set_2 r1 (4 : Int32) (0 : Int32) σ7 τ7) fun σ8 τ8 => some (σ8, τ8)) else (some (σ1, τ1))
def P_get_2 (p1 : Int32) (p2 : Int32) (σ : mS) (τ : mT) : Option (Int32 × mS × mT) :=
  ob (P_has_2 p1 σ τ) fun r1 σ1 τ1 => if r1 = 0 then (some ((0 : Int32), σ1, τ1)) else (ob (R_within p2 (0 : Int32) (4 : Int32) σ1 τ1) fun r3 σ3 τ3 => if r3 = 0 then (some ((0 : Int32), σ3, τ3)) else (if ((p1 * (5 : Int32)) + p2) < 0 ∨ 21 ≤ ((p1 * (5 : Int32)) + p2).toNatClampNeg then none else some (σ3 3 ((p1 * (5 : Int32)) + p2).toNatClampNeg, σ3, τ3)))
def Y_overlap (p1 : Int32) (p2 : Int32) (σ : mS) (τ : mT) : Option (Int32 × mS × mT) :=
  if p1 < 0 ∨ 4 ≤ p1.toNatClampNeg then none else if p2 < 0 ∨ 4 ≤ p2.toNatClampNeg then none else if (σ 8 p2.toNatClampNeg) ≤ (σ 7 p1.toNatClampNeg) then (some ((0 : Int32), σ, τ)) else (if (σ 8 p1.toNatClampNeg) ≤ (σ 7 p2.toNatClampNeg) then (some ((0 : Int32), σ, τ)) else (some ((1 : Int32), σ, τ)))
def Y_findLevel_l4 : Nat → Int32 → Int32 → Int32 → mS → mT → Option (mS × mT)
  | 0, _, _, _, _, _ => none
  | n + 1, x1, x2, x3, σ, τ =>
    if x1 ≤ x3 then (if x1 < 0 ∨ 4 ≤ x1.toNatClampNeg then none else mw (u2 σ 9 x1.toNatClampNeg x2) fun σ3 => some (σ3, τ)) else (ob (Y_overlap x3 x1 σ τ) fun r4 σ4 τ4 => if r4 = 0 then (Y_findLevel_l4 n x1 x2 (x3 + (1 : Int32)) σ4 τ4) else (if x3 < 0 ∨ 4 ≤ x3.toNatClampNeg then none else Y_findLevel_l4 n x1 (jmax x2 ((σ4 9 x3.toNatClampNeg) + (1 : Int32))) (x3 + (1 : Int32)) σ4 τ4))
def Y_findLevel (p1 : Int32) (σ : mS) (τ : mT) : Option (mS × mT) :=
  Y_findLevel_l4 mc_F p1 (0 : Int32) (0 : Int32) σ τ
def Y_findUnder_l9 : Nat → Int32 → Int32 → mS → mT → Option (mS × mT)
  | 0, _, _, _, _ => none
  | n + 1, x1, x2, σ, τ =>
    if x1 ≤ x2 then (some (σ, τ)) else (if x2 < 0 ∨ 4 ≤ x2.toNatClampNeg then none else if x1 < 0 ∨ 4 ≤ x1.toNatClampNeg then none else if (σ 9 x2.toNatClampNeg) = ((σ 9 x1.toNatClampNeg) - (1 : Int32)) then (ob (Y_overlap x2 x1 σ τ) fun r5 σ5 τ5 => if r5 = 0 then (Y_findUnder_l9 n x1 (x2 + (1 : Int32)) σ5 τ5) else (mw (u2 σ5 10 x1.toNatClampNeg ((σ5 10 x1.toNatClampNeg) ||| ((1 : Int32) <<< (x2 &&& 31)))) fun σ7 => mw (u2 σ7 11 x2.toNatClampNeg ((σ7 11 x2.toNatClampNeg) ||| ((1 : Int32) <<< (x1 &&& 31)))) fun σ8 => Y_findUnder_l9 n x1 (x2 + (1 : Int32)) σ8 τ5)) else (Y_findUnder_l9 n x1 (x2 + (1 : Int32)) σ τ))
def Y_findUnder (p1 : Int32) (σ : mS) (τ : mT) : Option (mS × mT) :=
  if p1 < 0 ∨ 4 ≤ p1.toNatClampNeg then none else mw (u2 σ 10 p1.toNatClampNeg (0 : Int32)) fun σ2 => Y_findUnder_l9 mc_F p1 (0 : Int32) σ2 τ
def Y_addContact (p1 : Int32) (p2 : Int32) (p3 : Int32) (σ : mS) (τ : mT) : Option (mS × mT) :=
  if (12 : Int32) ≤ (σ 6 9) then (some (σ, τ)) else (if (σ 6 9) < 0 ∨ 12 ≤ (σ 6 9).toNatClampNeg then none else mw (u2 σ 12 (σ 6 9).toNatClampNeg p1) fun σ3 => if (σ3 6 9) < 0 ∨ 12 ≤ (σ3 6 9).toNatClampNeg then none else mw (u2 σ3 13 (σ3 6 9).toNatClampNeg p2) fun σ5 => if (σ5 6 9) < 0 ∨ 12 ≤ (σ5 6 9).toNatClampNeg then none else mw (u2 σ5 14 (σ5 6 9).toNatClampNeg p3) fun σ7 => mw (u2 σ7 6 9 ((σ7 6 9) + (1 : Int32))) fun σ8 => some (σ8, τ))
def Y_findContacts_l37 : Nat → Int32 → Int32 → mS → mT → Option (mS × mT)
  | 0, _, _, _, _ => none
  | n + 1, x1, x2, σ, τ =>
    if x1 ≤ x2 then (some (σ, τ)) else (if x1 < 0 ∨ 4 ≤ x1.toNatClampNeg then none else if (((σ 10 x1.toNatClampNeg) >>> (x2 &&& 31)) &&& (1 : Int32)) = (1 : Int32) then (if x2 < 0 ∨ 4 ≤ x2.toNatClampNeg then none else ov (Y_addContact x1 x2 (jmax (σ 7 x2.toNatClampNeg) (σ 7 x1.toNatClampNeg)) σ τ) fun σ5 τ5 => ov (Y_addContact x1 x2 (jmin (σ5 8 x2.toNatClampNeg) (σ5 8 x1.toNatClampNeg)) σ5 τ5) fun σ6 τ6 => Y_findContacts_l37 n x1 (x2 + (1 : Int32)) σ6 τ6) else (Y_findContacts_l37 n x1 (x2 + (1 : Int32)) σ τ))
def Y_findContacts (p1 : Int32) (σ : mS) (τ : mT) : Option (mS × mT) :=
  if p1 < 0 ∨ 4 ≤ p1.toNatClampNeg then none else if (σ 10 p1.toNatClampNeg) = 0 then (ov (Y_addContact p1 (-9 : Int32) (σ 7 p1.toNatClampNeg) σ τ) fun σ3 τ3 => ov (Y_addContact p1 (-9 : Int32) (σ3 8 p1.toNatClampNeg) σ3 τ3) fun σ4 τ4 => Y_findContacts_l37 mc_F p1 (0 : Int32) σ4 τ4) else (Y_findContacts_l37 mc_F p1 (0 : Int32) σ τ)
def Y_find_2_l19 : Nat → Int32 → mS → mT → Option (mS × mT)
  | 0, _, _, _ => none
  | n + 1, x2, σ, τ =>
    if (σ 6 8) ≤ x2 then (some (σ, τ)) else (ob (P_get_2 x2 (0 : Int32) σ τ) fun r2 σ2 τ2 => if x2 < 0 ∨ 4 ≤ x2.toNatClampNeg then none else mw (u2 σ2 7 x2.toNatClampNeg r2) fun σ4 => ob (P_get_2 x2 (1 : Int32) σ4 τ2) fun r5 σ5 τ5 => mw (u2 σ5 8 x2.toNatClampNeg ((σ4 7 x2.toNatClampNeg) + ((2 : Int32) * r5))) fun σ6 => mw (u2 σ6 11 x2.toNatClampNeg (0 : Int32)) fun σ7 => ov (Y_findLevel x2 σ7 τ5) fun σ8 τ8 => ov (Y_findUnder x2 σ8 τ8) fun σ9 τ9 => ov (Y_findContacts x2 σ9 τ9) fun σ10 τ10 => Y_find_2_l19 n (x2 + (1 : Int32)) σ10 τ10)
def Y_find_2 (σ : mS) (τ : mT) : Option (mS × mT) :=
  ob (P_size_2 σ τ) fun r1 σ1 τ1 => mw (u2 σ1 6 8 (jmin r1 (4 : Int32))) fun σ2 => mw (u2 σ2 6 9 (0 : Int32)) fun σ3 => Y_find_2_l19 mc_F (0 : Int32) σ3 τ1
def Y_level (p1 : Int32) (σ : mS) (τ : mT) : Option (Int32 × mS × mT) :=
  ob (R_within p1 (0 : Int32) ((σ 6 8) - (1 : Int32)) σ τ) fun r1 σ1 τ1 => if r1 = 0 then (some ((-9 : Int32), σ1, τ1)) else (if p1 < 0 ∨ 4 ≤ p1.toNatClampNeg then none else some (σ1 9 p1.toNatClampNeg, σ1, τ1))
def R_drops (p1 : Int32) (p2 : Int32) (p3 : Int32) (σ : mS) (τ : mT) : Option (Int32 × mS × mT) :=
  ob (R_within p1 (0 : Int32) (9 : Int32) σ τ) fun r1 σ1 τ1 => if r1 = 0 then (some ((-1 : Int32), σ1, τ1)) else (ob (R_isBlock p2 p3 σ1 τ1) fun r3 σ3 τ3 => if r3 = 0 then (some ((-1 : Int32), σ3, τ3)) else (ob (P_size_2 σ3 τ3) fun r5 σ5 τ5 => if r5 < (4 : Int32) then (ov (R_remember σ5 τ5) fun σ7 τ7 => ov (P_add_2 p1 p2 p3 σ7 τ7) fun σ8 τ8 => ov (Y_find_2 σ8 τ8) fun σ9 τ9 => ob (P_size_2 σ9 τ9) fun r10 σ10 τ10 => ob (Y_level (r10 - (1 : Int32)) σ10 τ10) fun r11 σ11 τ11 => some (r11, σ11, τ11)) else (some ((-3 : Int32), σ5, τ5))))
def Q_fits (p0 : Int32) (p1 : Int32) (p2 : Int32) (σ : mS) (τ : mT) : Option (Int32 × mS × mT) :=
  ob (Q_within p0 (0 : Int32) (9 : Int32) σ τ) fun r1 σ1 τ1 => if r1 = 0 then (some ((0 : Int32), σ1, τ1)) else (ob (Q_within p1 (1 : Int32) (3 : Int32) σ1 τ1) fun r3 σ3 τ3 => if r3 = 0 then (some ((0 : Int32), σ3, τ3)) else (ob (Q_within p2 (1 : Int32) (9 : Int32) σ3 τ3) fun r5 σ5 τ5 => if r5 = 0 then (some ((0 : Int32), σ5, τ5)) else (some ((1 : Int32), σ5, τ5))))
def Q_many (σ : mS) (τ : mT) : Option (Int32 × mS × mT) :=
  some (σ 35 0, σ, τ)
def Q_touches (p1 : Int32) (p2 : Int32) (p3 : Int32) (σ : mS) (τ : mT) : Option (mS × mT) :=
  if (σ 34 9) < 0 ∨ 16 ≤ (σ 34 9).toNatClampNeg then none else mw (u2 σ 42 (σ 34 9).toNatClampNeg p1) fun σ2 => if (σ2 34 9) < 0 ∨ 16 ≤ (σ2 34 9).toNatClampNeg then none else mw (u2 σ2 43 (σ2 34 9).toNatClampNeg p2) fun σ4 => if (σ4 34 9) < 0 ∨ 16 ≤ (σ4 34 9).toNatClampNeg then none else mw (u2 σ4 44 (σ4 34 9).toNatClampNeg p3) fun σ6 => mw (u2 σ6 34 9 ((σ6 34 9) + (1 : Int32))) fun σ7 => some (σ7, τ)
def Q_end (p1 : Int32) (σ : mS) (τ : mT) : Option (Int32 × mS × mT) :=
  ob (Q_get p1 (1 : Int32) σ τ) fun r1 σ1 τ1 => ob (Q_get p1 (2 : Int32) σ1 τ1) fun r2 σ2 τ2 => some (r1 + ((2 : Int32) * r2), σ2, τ2)
def Q_from (p1 : Int32) (p2 : Int32) (σ : mS) (τ : mT) : Option (Int32 × mS × mT) :=
  ob (Q_get p1 (1 : Int32) σ τ) fun r1 σ1 τ1 => ob (Q_get p2 (1 : Int32) σ1 τ1) fun r2 σ2 τ2 => if r1 ≤ r2 then (ob (Q_get p2 (1 : Int32) σ2 τ2) fun r4 σ4 τ4 => some (r4, σ4, τ4)) else (ob (Q_get p1 (1 : Int32) σ2 τ2) fun r5 σ5 τ5 => some (r5, σ5, τ5))
def Q_to (p1 : Int32) (p2 : Int32) (σ : mS) (τ : mT) : Option (Int32 × mS × mT) :=
  ob (Q_end p1 σ τ) fun r1 σ1 τ1 => ob (Q_end p2 σ1 τ1) fun r2 σ2 τ2 => if r2 ≤ r1 then (ob (Q_end p2 σ2 τ2) fun r4 σ4 τ4 => some (r4, σ4, τ4)) else (ob (Q_end p1 σ2 τ2) fun r5 σ5 τ5 => some (r5, σ5, τ5))
def Q_doOverlap (p1 : Int32) (p2 : Int32) (σ : mS) (τ : mT) : Option (Int32 × mS × mT) :=
  ob (Q_from p1 p2 σ τ) fun r1 σ1 τ1 => ob (Q_to p1 p2 σ1 τ1) fun r2 σ2 τ2 => if r2 ≤ r1 then (some ((0 : Int32), σ2, τ2)) else (some ((1 : Int32), σ2, τ2))
def Q_layBlock_l76 : Nat → Int32 → Int32 → mS → mT → Option (mS × mT)
  | 0, _, _, _, _ => none
  | n + 1, x1, x2, σ, τ =>
    if x1 ≤ x2 then (if x1 < 0 ∨ 4 ≤ x1.toNatClampNeg then none else if (σ 41 x1.toNatClampNeg) = 0 then (ob (Q_get x1 (1 : Int32) σ τ) fun r4 σ4 τ4 => ov (Q_touches x1 (-9 : Int32) r4 σ4 τ4) fun σ5 τ5 => ob (Q_end x1 σ5 τ5) fun r6 σ6 τ6 => ov (Q_touches x1 (-9 : Int32) r6 σ6 τ6) fun σ7 τ7 => some (σ7, τ7)) else (some (σ, τ))) else (ob (Q_doOverlap x2 x1 σ τ) fun r8 σ8 τ8 => if r8 = 0 then (Q_layBlock_l76 n x1 (x2 + (1 : Int32)) σ8 τ8) else (if x2 < 0 ∨ 4 ≤ x2.toNatClampNeg then none else if x1 < 0 ∨ 4 ≤ x1.toNatClampNeg then none else if ((σ8 40 x2.toNatClampNeg) + (1 : Int32)) = (σ8 40 x1.toNatClampNeg) then (mw (u2 σ8 41 x1.toNatClampNeg ((σ8 41 x1.toNatClampNeg) ||| ((1 : Int32) <<< (x2 &&& 31)))) fun σ13 => ob (Q_from x2 x1 σ13 τ8) fun r14 σ14 τ14 => ov (Q_touches x1 x2 r14 σ14 τ14) fun σ15 τ15 => ob (Q_to x2 x1 σ15 τ15) fun r16 σ16 τ16 => ov (Q_touches x1 x2 r16 σ16 τ16) fun σ17 τ17 => Q_layBlock_l76 n x1 (x2 + (1 : Int32)) σ17 τ17) else (Q_layBlock_l76 n x1 (x2 + (1 : Int32)) σ8 τ8)))
def Q_layBlock_b61 (k16 : Int32 → Int32 → mS → mT → Option (mS × mT)) (x1 : Int32) (x2 : Int32) (s1 : Int32) (σ : mS) (τ : mT) : Option (mS × mT) :=
  if x1 < 0 ∨ 4 ≤ x1.toNatClampNeg then none else if s1 < 0 ∨ 4 ≤ s1.toNatClampNeg then none else mw (u2 σ 40 s1.toNatClampNeg (σ 40 x1.toNatClampNeg)) fun σ3 => k16 x1 (x2 + (1 : Int32)) σ3 τ
def Q_layBlock_l16 : Nat → Int32 → Int32 → mS → mT → Option (mS × mT)
  | 0, _, _, _, _ => none
  | n + 1, x1, x2, σ, τ =>
    if x1 ≤ x2 then (Q_layBlock_l76 mc_F x1 (0 : Int32) σ τ) else (ob (Q_doOverlap x2 x1 σ τ) fun r2 σ2 τ2 => if r2 = 0 then (Q_layBlock_b61 (Q_layBlock_l16 n) x1 x2 x1 σ2 τ2) else (if x2 < 0 ∨ 4 ≤ x2.toNatClampNeg then none else if x1 < 0 ∨ 4 ≤ x1.toNatClampNeg then none else if (σ2 40 x2.toNatClampNeg) < (σ2 40 x1.toNatClampNeg) then (Q_layBlock_b61 (Q_layBlock_l16 n) x1 x2 x1 σ2 τ2) else (mw (u2 σ2 40 x1.toNatClampNeg ((σ2 40 x2.toNatClampNeg) + (1 : Int32))) fun σ7 => Q_layBlock_l16 n x1 (x2 + (1 : Int32)) σ7 τ2)))
def Q_layBlock (p1 : Int32) (σ : mS) (τ : mT) : Option (mS × mT) :=
  if p1 < 0 ∨ 4 ≤ p1.toNatClampNeg then none else mw (u2 σ 40 p1.toNatClampNeg (0 : Int32)) fun σ2 => mw (u2 σ2 41 p1.toNatClampNeg (0 : Int32)) fun σ3 => Q_layBlock_l16 mc_F p1 (0 : Int32) σ3 τ
def Q_layAll_l7 : Nat → Int32 → mS → mT → Option (mS × mT)
  | 0, _, _, _ => none
  | n + 1, x1, σ, τ =>
    ob (Q_many σ τ) fun r1 σ1 τ1 => if r1 ≤ x1 then (some (σ1, τ1)) else (ov (Q_layBlock x1 σ1 τ1) fun σ3 τ3 => Q_layAll_l7 n (x1 + (1 : Int32)) σ3 τ3)
def Q_layAll (σ : mS) (τ : mT) : Option (mS × mT) :=
  mw (u2 σ 34 9 (0 : Int32)) fun σ1 => Q_layAll_l7 mc_F (0 : Int32) σ1 τ
def Q_drops (p1 : Int32) (p2 : Int32) (p3 : Int32) (σ : mS) (τ : mT) : Option (Int32 × mS × mT) :=
  ob (Q_fits p1 p2 p3 σ τ) fun r1 σ1 τ1 => if r1 = 0 then (some ((-1 : Int32), σ1, τ1)) else (if (σ1 35 0) = (4 : Int32) then (some ((-3 : Int32), σ1, τ1)) else (ov (Q_lays_48 (0 : Int32) σ1 τ1) fun σ4 τ4 => ov (Q_keeps σ4 τ4) fun σ5 τ5 => ov (Q_appends p1 p2 p3 σ5 τ5) fun σ6 τ6 => ov (Q_layAll σ6 τ6) fun σ7 τ7 => if ((σ7 35 0) - (1 : Int32)) < 0 ∨ 4 ≤ ((σ7 35 0) - (1 : Int32)).toNatClampNeg then none else some (σ7 40 ((σ7 35 0) - (1 : Int32)).toNatClampNeg, σ7, τ7)))
def Y_over (p1 : Int32) (σ : mS) (τ : mT) : Option (Int32 × mS × mT) :=
  ob (R_within p1 (0 : Int32) ((σ 6 8) - (1 : Int32)) σ τ) fun r1 σ1 τ1 => if r1 = 0 then (some ((0 : Int32), σ1, τ1)) else (if p1 < 0 ∨ 4 ≤ p1.toNatClampNeg then none else some (σ1 11 p1.toNatClampNeg, σ1, τ1))
def P_takeOut_2 (p1 : Int32) (σ : mS) (τ : mT) : Option (mS × mT) :=
  ob (P_has_2 p1 σ τ) fun r1 σ1 τ1 => if r1 = 0 then (some (σ1, τ1)) else (ob (P_size_2 σ1 τ1) fun r3 σ3 τ3 => if ((p1 + (1 : Int32)) * (5 : Int32)) < 0 then none else if (p1 * (5 : Int32)) < 0 then none else if (((r3 - (1 : Int32)) - p1) * (5 : Int32)) < 0 then none else if 21 < ((p1 + (1 : Int32)) * (5 : Int32)).toNatClampNeg + (((r3 - (1 : Int32)) - p1) * (5 : Int32)).toNatClampNeg then none else if 21 < (p1 * (5 : Int32)).toNatClampNeg + (((r3 - (1 : Int32)) - p1) * (5 : Int32)).toNatClampNeg then none else mw (u1 σ3 3 (va_cpy (σ3 3) (σ3 3) ((p1 + (1 : Int32)) * (5 : Int32)).toNatClampNeg (p1 * (5 : Int32)).toNatClampNeg (((r3 - (1 : Int32)) - p1) * (5 : Int32)).toNatClampNeg)) fun σ9 => mw (u2 σ9 3 20 ((σ9 3 20) - (1 : Int32))) fun σ10 => some (σ10, τ3))
def R_lifts (p1 : Int32) (σ : mS) (τ : mT) : Option (Int32 × mS × mT) :=
  ob (P_has_2 p1 σ τ) fun r1 σ1 τ1 => if r1 = 0 then (some ((-1 : Int32), σ1, τ1)) else (ov (Y_find_2 σ1 τ1) fun σ3 τ3 => ob (Y_over p1 σ3 τ3) fun r4 σ4 τ4 => if r4 = 0 then (ov (R_remember σ4 τ4) fun σ6 τ6 => ov (P_takeOut_2 p1 σ6 τ6) fun σ7 τ7 => ob (P_size_2 σ7 τ7) fun r8 σ8 τ8 => some (r8, σ8, τ8)) else (some ((-2 : Int32), σ4, τ4)))
def Q_isBlock (p1 : Int32) (σ : mS) (τ : mT) : Option (Int32 × mS × mT) :=
  ob (Q_within p1 (0 : Int32) ((σ 35 0) - (1 : Int32)) σ τ) fun r1 σ1 τ1 => if ¬ r1 &&& 1 = r1 then none else some (r1, σ1, τ1)
def Q_has (p0 : Int32) (p1 : Int32) (σ : mS) (τ : mT) : Option (Int32 × mS × mT) :=
  if ((p0 >>> (p1 &&& 31)) &&& (1 : Int32)) = (1 : Int32) then (some ((1 : Int32), σ, τ)) else (some ((0 : Int32), σ, τ))
def Q_above_l4 : Nat → Int32 → Int32 → Int32 → mS → mT → Option (Int32 × mS × mT)
  | 0, _, _, _, _, _ => none
  | n + 1, x1, x2, x3, σ, τ =>
    ob (Q_many σ τ) fun r1 σ1 τ1 => if r1 ≤ x3 then (some (x2, σ1, τ1)) else (if x3 < 0 ∨ 4 ≤ x3.toNatClampNeg then none else ob (Q_has (σ1 41 x3.toNatClampNeg) x1 σ1 τ1) fun r4 σ4 τ4 => if r4 = 0 then (Q_above_l4 n x1 (x2 ||| (0 : Int32)) (x3 + (1 : Int32)) σ4 τ4) else (Q_above_l4 n x1 (x2 ||| ((1 : Int32) <<< (x3 &&& 31))) (x3 + (1 : Int32)) σ4 τ4))
def Q_above (p1 : Int32) (σ : mS) (τ : mT) : Option (Int32 × mS × mT) :=
  Q_above_l4 mc_F p1 (0 : Int32) (0 : Int32) σ τ
def Q_removes_l6 : Nat → Int32 → mS → mT → Option (mS × mT)
  | 0, _, _, _ => none
  | n + 1, x2, σ, τ =>
    if ((5 : Int32) * ((σ 35 0) - (1 : Int32))) < x2 then (mw (u2 σ 35 0 ((σ 35 0) - (1 : Int32))) fun σ2 => some (σ2, τ)) else (if (x2 + (5 : Int32)) < 0 ∨ 21 ≤ (x2 + (5 : Int32)).toNatClampNeg then none else if x2 < 0 ∨ 21 ≤ x2.toNatClampNeg then none else mw (u2 σ 35 x2.toNatClampNeg (σ 35 (x2 + (5 : Int32)).toNatClampNeg)) fun σ5 => Q_removes_l6 n (x2 + (1 : Int32)) σ5 τ)
def Q_removes (p1 : Int32) (σ : mS) (τ : mT) : Option (mS × mT) :=
  Q_removes_l6 mc_F (((5 : Int32) * p1) + (1 : Int32)) σ τ
def Q_lifts (p1 : Int32) (σ : mS) (τ : mT) : Option (Int32 × mS × mT) :=
  ob (Q_isBlock p1 σ τ) fun r1 σ1 τ1 => if r1 = 0 then (some ((-1 : Int32), σ1, τ1)) else (ov (Q_layAll σ1 τ1) fun σ3 τ3 => ob (Q_above p1 σ3 τ3) fun r4 σ4 τ4 => if r4 = 0 then (ov (Q_lays_48 (0 : Int32) σ4 τ4) fun σ6 τ6 => ov (Q_keeps σ6 τ6) fun σ7 τ7 => ov (Q_removes p1 σ7 τ7) fun σ8 τ8 => some (σ8 35 0, σ8, τ8)) else (some ((-2 : Int32), σ4, τ4)))
def R_weighs (p1 : Int32) (p2 : Int32) (σ : mS) (τ : mT) : Option (Int32 × mS × mT) :=
  ob (P_has_2 p1 σ τ) fun r1 σ1 τ1 => if r1 = 0 then (some ((-1 : Int32), σ1, τ1)) else (ob (R_within p2 (1 : Int32) (9 : Int32) σ1 τ1) fun r3 σ3 τ3 => if r3 = 0 then (some ((-1 : Int32), σ3, τ3)) else (ob (P_get_2 p1 (2 : Int32) σ3 τ3) fun r5 σ5 τ5 => if r5 = p2 then (some ((-2 : Int32), σ5, τ5)) else (ov (R_remember σ5 τ5) fun σ7 τ7 => ov (P_set_2 p1 (2 : Int32) p2 σ7 τ7) fun σ8 τ8 => some (r5, σ8, τ8))))
def Q_weighs (p1 : Int32) (p2 : Int32) (σ : mS) (τ : mT) : Option (Int32 × mS × mT) :=
  ob (Q_isBlock p1 σ τ) fun r1 σ1 τ1 => if r1 = 0 then (some ((-1 : Int32), σ1, τ1)) else (ob (Q_within p2 (1 : Int32) (9 : Int32) σ1 τ1) fun r3 σ3 τ3 => if r3 = 0 then (some ((-1 : Int32), σ3, τ3)) else (ob (Q_get p1 (3 : Int32) σ3 τ3) fun r5 σ5 τ5 => if r5 = p2 then (some ((-2 : Int32), σ5, τ5)) else (ov (Q_lays_48 (0 : Int32) σ5 τ5) fun σ7 τ7 => ov (Q_keeps σ7 τ7) fun σ8 τ8 => if (((5 : Int32) * p1) + (3 : Int32)) < 0 ∨ 21 ≤ (((5 : Int32) * p1) + (3 : Int32)).toNatClampNeg then none else mw (u2 σ8 35 (((5 : Int32) * p1) + (3 : Int32)).toNatClampNeg p2) fun σ10 => some (r5, σ10, τ8))))
def R_isSpot (p1 : Int32) (p2 : Int32) (σ : mS) (τ : mT) : Option (Int32 × mS × mT) :=
  ob (P_has_2 p1 σ τ) fun r1 σ1 τ1 => if r1 = 0 then (some ((0 : Int32), σ1, τ1)) else (ob (P_get_2 p1 (1 : Int32) σ1 τ1) fun r3 σ3 τ3 => ob (R_within p2 (0 : Int32) ((2 : Int32) * r3) σ3 τ3) fun r4 σ4 τ4 => if r4 = 0 then (some ((0 : Int32), σ4, τ4)) else (some ((1 : Int32), σ4, τ4)))
def R_loads_b54 (x1 : Int32) (x2 : Int32) (x3 : Int32) (x4 : Int32) (σ : mS) (τ : mT) : Option (Int32 × mS × mT) :=
  ov (R_remember σ τ) fun σ1 τ1 => ov (P_set_2 x1 (3 : Int32) x3 σ1 τ1) fun σ2 τ2 => ov (P_set_2 x1 (4 : Int32) x2 σ2 τ2) fun σ3 τ3 => some (x4, σ3, τ3)
def R_loads (p1 : Int32) (p2 : Int32) (p3 : Int32) (σ : mS) (τ : mT) : Option (Int32 × mS × mT) :=
  ob (R_isSpot p1 p2 σ τ) fun r1 σ1 τ1 => if r1 = 0 then (some ((-1 : Int32), σ1, τ1)) else (ob (R_within p3 (0 : Int32) (20 : Int32) σ1 τ1) fun r3 σ3 τ3 => if r3 = 0 then (some ((-1 : Int32), σ3, τ3)) else (ob (P_get_2 p1 (3 : Int32) σ3 τ3) fun r5 σ5 τ5 => if r5 = p3 then (ob (P_get_2 p1 (4 : Int32) σ5 τ5) fun r7 σ7 τ7 => if r7 = p2 then (some ((-2 : Int32), σ7, τ7)) else (R_loads_b54 p1 p2 p3 r5 σ7 τ7)) else (R_loads_b54 p1 p2 p3 r5 σ5 τ5)))
def Q_isSpot (p1 : Int32) (p2 : Int32) (σ : mS) (τ : mT) : Option (Int32 × mS × mT) :=
  ob (Q_isBlock p1 σ τ) fun r1 σ1 τ1 => if r1 = 0 then (some ((0 : Int32), σ1, τ1)) else (ob (Q_get p1 (2 : Int32) σ1 τ1) fun r3 σ3 τ3 => ob (Q_within p2 (0 : Int32) ((2 : Int32) * r3) σ3 τ3) fun r4 σ4 τ4 => if r4 = 0 then (some ((0 : Int32), σ4, τ4)) else (some ((1 : Int32), σ4, τ4)))
def Q_loads_b48 (x1 : Int32) (x2 : Int32) (x3 : Int32) (x4 : Int32) (σ : mS) (τ : mT) : Option (Int32 × mS × mT) :=
  ov (Q_lays_48 (0 : Int32) σ τ) fun σ1 τ1 => ov (Q_keeps σ1 τ1) fun σ2 τ2 => if (((5 : Int32) * x1) + (4 : Int32)) < 0 ∨ 21 ≤ (((5 : Int32) * x1) + (4 : Int32)).toNatClampNeg then none else mw (u2 σ2 35 (((5 : Int32) * x1) + (4 : Int32)).toNatClampNeg x3) fun σ4 => if (((5 : Int32) * x1) + (5 : Int32)) < 0 ∨ 21 ≤ (((5 : Int32) * x1) + (5 : Int32)).toNatClampNeg then none else mw (u2 σ4 35 (((5 : Int32) * x1) + (5 : Int32)).toNatClampNeg x2) fun σ6 => some (x4, σ6, τ2)
def Q_loads (p1 : Int32) (p2 : Int32) (p3 : Int32) (σ : mS) (τ : mT) : Option (Int32 × mS × mT) :=
  ob (Q_isSpot p1 p2 σ τ) fun r1 σ1 τ1 => if r1 = 0 then (some ((-1 : Int32), σ1, τ1)) else (ob (Q_within p3 (0 : Int32) (20 : Int32) σ1 τ1) fun r3 σ3 τ3 => if r3 = 0 then (some ((-1 : Int32), σ3, τ3)) else (ob (Q_get p1 (4 : Int32) σ3 τ3) fun r5 σ5 τ5 => if r5 = p3 then (ob (Q_get p1 (5 : Int32) σ5 τ5) fun r7 σ7 τ7 => if r7 = p2 then (some ((-2 : Int32), σ7, τ7)) else (Q_loads_b48 p1 p2 p3 r5 σ7 τ7)) else (Q_loads_b48 p1 p2 p3 r5 σ5 τ5)))
def S_read_29_2 (p1 : Int32) (σ : mS) (τ : mT) : Option (mS × mT) :=
  ob (R_within p1 (0 : Int32) ((6 : Int32) - (1 : Int32)) σ τ) fun r1 σ1 τ1 => if r1 = 0 then (some (σ1, τ1)) else (if (p1 * (21 : Int32)) < 0 then none else if 126 < (p1 * (21 : Int32)).toNatClampNeg + 21 then none else mw (u1 σ1 3 (va_cpy (σ1 30) (σ1 3) (p1 * (21 : Int32)).toNatClampNeg 0 21)) fun σ5 => some (σ5, τ1))
def R_undo (σ : mS) (τ : mT) : Option (Int32 × mS × mT) :=
  if 0 < (σ 1 8) then (mw (u2 σ 1 8 ((σ 1 8) - (1 : Int32))) fun σ2 => ov (S_read_29_2 (σ2 1 8) σ2 τ) fun σ3 τ3 => some (σ3 1 8, σ3, τ3)) else (some ((-2 : Int32), σ, τ))
def Q_takes_36_l2 : Nat → Int32 → Int32 → mS → mT → Option (mS × mT)
  | 0, _, _, _, _ => none
  | n + 1, x2, x3, σ, τ =>
    if (21 : Int32) ≤ x3 then (some (σ, τ)) else (if (x2 + x3) < 0 ∨ 126 ≤ (x2 + x3).toNatClampNeg then none else if x3 < 0 ∨ 21 ≤ x3.toNatClampNeg then none else mw (u2 σ 35 x3.toNatClampNeg (σ 36 (x2 + x3).toNatClampNeg)) fun σ4 => Q_takes_36_l2 n x2 (x3 + (1 : Int32)) σ4 τ)
def Q_takes_36 (p2 : Int32) (σ : mS) (τ : mT) : Option (mS × mT) :=
  Q_takes_36_l2 mc_F p2 (0 : Int32) σ τ
def Q_undo (σ : mS) (τ : mT) : Option (Int32 × mS × mT) :=
  if (σ 34 2) = 0 then (some ((-2 : Int32), σ, τ)) else (mw (u2 σ 34 2 ((σ 34 2) - (1 : Int32))) fun σ2 => ov (Q_takes_36 ((21 : Int32) * (σ2 34 2)) σ2 τ) fun σ3 τ3 => some (σ3 34 2, σ3, τ3))
def Y_under (p1 : Int32) (σ : mS) (τ : mT) : Option (Int32 × mS × mT) :=
  ob (R_within p1 (0 : Int32) ((σ 6 8) - (1 : Int32)) σ τ) fun r1 σ1 τ1 => if r1 = 0 then (some ((0 : Int32), σ1, τ1)) else (if p1 < 0 ∨ 4 ≤ p1.toNatClampNeg then none else some (σ1 10 p1.toNatClampNeg, σ1, τ1))
def R_block (p1 : Int32) (p2 : Int32) (σ : mS) (τ : mT) : Option (Int32 × mS × mT) :=
  ob (P_has_2 p1 σ τ) fun r1 σ1 τ1 => if r1 = 0 then (some ((-1 : Int32), σ1, τ1)) else (ob (R_within p2 (0 : Int32) (7 : Int32) σ1 τ1) fun r3 σ3 τ3 => if r3 = 0 then (some ((-1 : Int32), σ3, τ3)) else (if (5 : Int32) ≤ p2 then (ov (Y_find_2 σ3 τ3) fun σ6 τ6 => if p2 = 5 then (ob (Y_level p1 σ6 τ6) fun r8 σ8 τ8 => some (r8, σ8, τ8)) else if p2 = 6 then (ob (Y_under p1 σ6 τ6) fun r10 σ10 τ10 => some (r10, σ10, τ10)) else (ob (Y_over p1 σ6 τ6) fun r11 σ11 τ11 => some (r11, σ11, τ11))) else (ob (P_get_2 p1 p2 σ3 τ3) fun r12 σ12 τ12 => some (r12, σ12, τ12))))
def Q_tellBlock (p1 : Int32) (p2 : Int32) (σ : mS) (τ : mT) : Option (Int32 × mS × mT) :=
  if (5 : Int32) ≤ p2 then (ov (Q_layAll σ τ) fun σ2 τ2 => if p2 = (5 : Int32) then (if p1 < 0 ∨ 4 ≤ p1.toNatClampNeg then none else some (σ2 40 p1.toNatClampNeg, σ2, τ2)) else (if p2 = (6 : Int32) then (if p1 < 0 ∨ 4 ≤ p1.toNatClampNeg then none else some (σ2 41 p1.toNatClampNeg, σ2, τ2)) else (ob (Q_above p1 σ2 τ2) fun r5 σ5 τ5 => some (r5, σ5, τ5)))) else (ob (Q_get p1 (p2 + (1 : Int32)) σ τ) fun r8 σ8 τ8 => some (r8, σ8, τ8))
def Q_block (p1 : Int32) (p2 : Int32) (σ : mS) (τ : mT) : Option (Int32 × mS × mT) :=
  ob (Q_isBlock p1 σ τ) fun r1 σ1 τ1 => if r1 = 0 then (some ((-1 : Int32), σ1, τ1)) else (ob (Q_within p2 (0 : Int32) (7 : Int32) σ1 τ1) fun r3 σ3 τ3 => if r3 = 0 then (some ((-1 : Int32), σ3, τ3)) else (ob (Q_tellBlock p1 p2 σ3 τ3) fun r5 σ5 τ5 => some (r5, σ5, τ5)))
def Y_contacts (σ : mS) (τ : mT) : Option (Int32 × mS × mT) :=
  some (σ 6 9, σ, τ)
def Y_upper (p1 : Int32) (σ : mS) (τ : mT) : Option (Int32 × mS × mT) :=
  ob (R_within p1 (0 : Int32) ((σ 6 9) - (1 : Int32)) σ τ) fun r1 σ1 τ1 => if r1 = 0 then (some ((-9 : Int32), σ1, τ1)) else (if p1 < 0 ∨ 12 ≤ p1.toNatClampNeg then none else some (σ1 12 p1.toNatClampNeg, σ1, τ1))
def Y_lower (p1 : Int32) (σ : mS) (τ : mT) : Option (Int32 × mS × mT) :=
  ob (R_within p1 (0 : Int32) ((σ 6 9) - (1 : Int32)) σ τ) fun r1 σ1 τ1 => if r1 = 0 then (some ((-9 : Int32), σ1, τ1)) else (if p1 < 0 ∨ 12 ≤ p1.toNatClampNeg then none else some (σ1 13 p1.toNatClampNeg, σ1, τ1))
def Y_x (p1 : Int32) (σ : mS) (τ : mT) : Option (Int32 × mS × mT) :=
  ob (R_within p1 (0 : Int32) ((σ 6 9) - (1 : Int32)) σ τ) fun r1 σ1 τ1 => if r1 = 0 then (some ((0 : Int32), σ1, τ1)) else (if p1 < 0 ∨ 12 ≤ p1.toNatClampNeg then none else some (σ1 14 p1.toNatClampNeg, σ1, τ1))
def R_contact (p1 : Int32) (p2 : Int32) (σ : mS) (τ : mT) : Option (Int32 × mS × mT) :=
  ov (Y_find_2 σ τ) fun σ1 τ1 => ob (Y_contacts σ1 τ1) fun r2 σ2 τ2 => ob (R_within p1 (0 : Int32) (r2 - (1 : Int32)) σ2 τ2) fun r3 σ3 τ3 => if r3 = 0 then (some ((-1 : Int32), σ3, τ3)) else (if p2 = 0 then (ob (Y_upper p1 σ3 τ3) fun r6 σ6 τ6 => some (r6, σ6, τ6)) else if p2 = 1 then (ob (Y_lower p1 σ3 τ3) fun r8 σ8 τ8 => some (r8, σ8, τ8)) else if p2 = 2 then (ob (Y_x p1 σ3 τ3) fun r10 σ10 τ10 => some (r10, σ10, τ10)) else (some ((-1 : Int32), σ3, τ3)))
def Q_isContact (p1 : Int32) (σ : mS) (τ : mT) : Option (Int32 × mS × mT) :=
  ov (Q_layAll σ τ) fun σ1 τ1 => ob (Q_within p1 (0 : Int32) ((σ1 34 9) - (1 : Int32)) σ1 τ1) fun r2 σ2 τ2 => if ¬ r2 &&& 1 = r2 then none else some (r2, σ2, τ2)
def Q_contact (p1 : Int32) (p2 : Int32) (σ : mS) (τ : mT) : Option (Int32 × mS × mT) :=
  ob (Q_isContact p1 σ τ) fun r1 σ1 τ1 => if r1 = 0 then (some ((-1 : Int32), σ1, τ1)) else (ob (Q_within p2 (0 : Int32) (2 : Int32) σ1 τ1) fun r3 σ3 τ3 => if r3 = 0 then (some ((-1 : Int32), σ3, τ3)) else (if p2 = 0 then (if p1 < 0 ∨ 16 ≤ p1.toNatClampNeg then none else some (σ3 42 p1.toNatClampNeg, σ3, τ3)) else (if p2 = (1 : Int32) then (if p1 < 0 ∨ 16 ≤ p1.toNatClampNeg then none else some (σ3 43 p1.toNatClampNeg, σ3, τ3)) else (if p1 < 0 ∨ 16 ≤ p1.toNatClampNeg then none else some (σ3 44 p1.toNatClampNeg, σ3, τ3)))))
def B_poseBlock_2_6_b93 (k55 : Int32 → Int32 → Int32 → mS → mT → Option (mS × mT)) (x3 : Int32) (x4 : Int32) (x5 : Int32) (s0 : Int32) (σ : mS) (τ : mT) : Option (mS × mT) :=
  if x4 < 0 ∨ 8 ≤ x4.toNatClampNeg then none else if x5 < 0 ∨ 14 ≤ x5.toNatClampNeg then none else mw (u2L τ (17 + x4.toNatClampNeg) x5.toNatClampNeg (s0.toInt64)) fun τ3 => if (x4 + (1 : Int32)) < 0 ∨ 8 ≤ (x4 + (1 : Int32)).toNatClampNeg then none else ob (Y_x x5 σ τ3) fun r5 σ5 τ5 => ob (P_get_2 x3 (0 : Int32) σ5 τ5) fun r6 σ6 τ6 => mw (u2L τ6 (17 + (x4 + (1 : Int32)).toNatClampNeg) x5.toNatClampNeg ((s0 * (r5 - r6)).toInt64)) fun τ7 => k55 x3 x4 (x5 + (1 : Int32)) σ6 τ7
def B_poseBlock_2_6_l55 : Nat → Int32 → Int32 → Int32 → mS → mT → Option (mS × mT)
  | 0, _, _, _, _, _ => none
  | n + 1, x3, x4, x5, σ, τ =>
    if (σ 15 4) ≤ x5 then (ob (P_get_2 x3 (2 : Int32) σ τ) fun r2 σ2 τ2 => ob (P_get_2 x3 (3 : Int32) σ2 τ2) fun r3 σ3 τ3 => if x4 < 0 ∨ 8 ≤ x4.toNatClampNeg then none else mw (u2L τ3 (17 + x4.toNatClampNeg) 13 ((r2 + r3).toInt64)) fun τ5 => if (x4 + (1 : Int32)) < 0 ∨ 8 ≤ (x4 + (1 : Int32)).toNatClampNeg then none else ob (P_get_2 x3 (1 : Int32) σ3 τ5) fun r7 σ7 τ7 => ob (P_get_2 x3 (4 : Int32) σ7 τ7) fun r8 σ8 τ8 => mw (u2L τ8 (17 + (x4 + (1 : Int32)).toNatClampNeg) 13 (((r2 * r7) + (r3 * r8)).toInt64)) fun τ9 => some (σ8, τ9)) else (ob (Y_upper x5 σ τ) fun r10 σ10 τ10 => if r10 = x3 then (B_poseBlock_2_6_b93 (B_poseBlock_2_6_l55 n) x3 x4 x5 (1 : Int32) σ10 τ10) else (ob (Y_lower x5 σ10 τ10) fun r12 σ12 τ12 => if r12 = x3 then (B_poseBlock_2_6_b93 (B_poseBlock_2_6_l55 n) x3 x4 x5 (-1 : Int32) σ12 τ12) else (B_poseBlock_2_6_b93 (B_poseBlock_2_6_l55 n) x3 x4 x5 (0 : Int32) σ12 τ12)))
def B_poseBlock_2_6 (p3 : Int32) (σ : mS) (τ : mT) : Option (mS × mT) :=
  mw (u2 σ 15 3 ((σ 15 3) + (2 : Int32))) fun σ1 => if p3 < 0 ∨ 4 ≤ p3.toNatClampNeg then none else mw (u2 σ1 26 p3.toNatClampNeg (σ 15 3)) fun σ3 => if (σ 15 3) < 0 ∨ 8 ≤ (σ 15 3).toNatClampNeg then none else mw (u2 σ3 25 (σ 15 3).toNatClampNeg ((13 : Int32) + (σ 15 3))) fun σ5 => if ((σ 15 3) + (1 : Int32)) < 0 ∨ 8 ≤ ((σ 15 3) + (1 : Int32)).toNatClampNeg then none else mw (u2 σ5 25 ((σ 15 3) + (1 : Int32)).toNatClampNeg (((13 : Int32) + (σ 15 3)) + (1 : Int32))) fun σ7 => B_poseBlock_2_6_l55 mc_F p3 (σ 15 3) (0 : Int32) σ7 τ
def B_pose_2_6_l26 : Nat → Int32 → Int32 → mS → mT → Option (mS × mT)
  | 0, _, _, _, _ => none
  | n + 1, x3, x4, σ, τ =>
    ob (P_size_2 σ τ) fun r1 σ1 τ1 => if r1 ≤ x4 then (some (σ1, τ1)) else (if (4 : Int32) ≤ x4 then (some (σ1, τ1)) else (if x4 < 0 ∨ 4 ≤ x4.toNatClampNeg then none else mw (u2 σ1 26 x4.toNatClampNeg (-1 : Int32)) fun σ5 => if ((x3 >>> (x4 &&& 31)) &&& (1 : Int32)) = 0 then (if (8 : Int32) < ((σ5 15 3) + (2 : Int32)) then (B_pose_2_6_l26 n x3 (x4 + (1 : Int32)) σ5 τ1) else (ov (B_poseBlock_2_6 x4 σ5 τ1) fun σ8 τ8 => B_pose_2_6_l26 n x3 (x4 + (1 : Int32)) σ8 τ8)) else (B_pose_2_6_l26 n x3 (x4 + (1 : Int32)) σ5 τ1)))
def B_pose_2_6 (p3 : Int32) (σ : mS) (τ : mT) : Option (mS × mT) :=
  mw (u2 σ 15 3 (0 : Int32)) fun σ1 => ob (Y_contacts σ1 τ) fun r2 σ2 τ2 => mw (u2 σ2 15 4 (jmin r2 (12 : Int32))) fun σ3 => mw (u2L τ2 15 5 (1 : Int64)) fun τ4 => B_pose_2_6_l26 mc_F p3 (0 : Int32) σ3 τ4
def B_makeshift_l5 : Nat → Int32 → Int64 → Int32 → mS → mT → Option (Int64 × mS × mT)
  | 0, _, _, _, _, _ => none
  | n + 1, x1, x2, x4, σ, τ =>
    if (σ 15 3) ≤ x4 then (some (x2, σ, τ)) else (if x4 < 0 ∨ 8 ≤ x4.toNatClampNeg then none else if (σ 25 x4.toNatClampNeg) < (13 : Int32) then (B_makeshift_l5 n x1 x2 (x4 + (1 : Int32)) σ τ) else (if x1 < 0 ∨ 14 ≤ x1.toNatClampNeg then none else B_makeshift_l5 n x1 (x2 + (τ (17 + x4.toNatClampNeg) x1.toNatClampNeg)) (x4 + (1 : Int32)) σ τ))
def B_makeshift (p1 : Int32) (σ : mS) (τ : mT) : Option (Int64 × mS × mT) :=
  B_makeshift_l5 mc_F p1 (0 : Int64) (0 : Int32) σ τ
def B_clearBy_l23 : Nat → Int32 → Int32 → Int64 → Int64 → Int32 → mS → mT → Option (mS × mT)
  | 0, _, _, _, _, _, _, _ => none
  | n + 1, x1, x2, x4, x6, x8, σ, τ =>
    if (σ 15 4) ≤ x8 then (if x1 < 0 ∨ 8 ≤ x1.toNatClampNeg then none else if x2 < 0 ∨ 8 ≤ x2.toNatClampNeg then none else if (τ 15 5) = 0 then none else mw (u2L τ (17 + x1.toNatClampNeg) 13 ((((τ (17 + x1.toNatClampNeg) 13) * x4) - (x6 * (τ (17 + x2.toNatClampNeg) 13))) / (τ 15 5))) fun τ5 => some (σ, τ5)) else (if x1 < 0 ∨ 8 ≤ x1.toNatClampNeg then none else if x8 < 0 ∨ 14 ≤ x8.toNatClampNeg then none else if x2 < 0 ∨ 8 ≤ x2.toNatClampNeg then none else if (τ 15 5) = 0 then none else mw (u2L τ (17 + x1.toNatClampNeg) x8.toNatClampNeg ((((τ (17 + x1.toNatClampNeg) x8.toNatClampNeg) * x4) - (x6 * (τ (17 + x2.toNatClampNeg) x8.toNatClampNeg))) / (τ 15 5))) fun τ10 => B_clearBy_l23 n x1 x2 x4 x6 (x8 + (1 : Int32)) σ τ10)
def B_clearBy (p1 : Int32) (p2 : Int32) (p3 : Int32) (σ : mS) (τ : mT) : Option (mS × mT) :=
  if p2 < 0 ∨ 8 ≤ p2.toNatClampNeg then none else if p3 < 0 ∨ 14 ≤ p3.toNatClampNeg then none else if p1 < 0 ∨ 8 ≤ p1.toNatClampNeg then none else B_clearBy_l23 mc_F p1 p2 (τ (17 + p2.toNatClampNeg) p3.toNatClampNeg) (τ (17 + p1.toNatClampNeg) p3.toNatClampNeg) (0 : Int32) σ τ
def B_turnSigns_l2 : Nat → Int32 → Int32 → mS → mT → Option (mS × mT)
  | 0, _, _, _, _ => none
  | n + 1, x1, x2, σ, τ =>
    if (σ 15 4) ≤ x2 then (if x1 < 0 ∨ 8 ≤ x1.toNatClampNeg then none else mw (u2L τ (17 + x1.toNatClampNeg) 13 (-(τ (17 + x1.toNatClampNeg) 13))) fun τ3 => some (σ, τ3)) else (if x1 < 0 ∨ 8 ≤ x1.toNatClampNeg then none else if x2 < 0 ∨ 14 ≤ x2.toNatClampNeg then none else mw (u2L τ (17 + x1.toNatClampNeg) x2.toNatClampNeg (-(τ (17 + x1.toNatClampNeg) x2.toNatClampNeg))) fun τ6 => B_turnSigns_l2 n x1 (x2 + (1 : Int32)) σ τ6)
def B_turnSigns (p1 : Int32) (σ : mS) (τ : mT) : Option (mS × mT) :=
  B_turnSigns_l2 mc_F p1 (0 : Int32) σ τ
def B_pivot_l46 : Nat → Int32 → Int32 → Int64 → Int32 → mS → mT → Option (mS × mT)
  | 0, _, _, _, _, _, _ => none
  | n + 1, x1, x2, x3, x5, σ, τ =>
    if (σ 15 3) ≤ x5 then (mw (u2L τ 15 5 x3) fun τ2 => if x1 < 0 ∨ 8 ≤ x1.toNatClampNeg then none else mw (u2 σ 25 x1.toNatClampNeg x2) fun σ4 => some (σ4, τ2)) else (if x5 = x1 then (B_pivot_l46 n x1 x2 x3 (x5 + (1 : Int32)) σ τ) else (ov (B_clearBy x5 x1 x2 σ τ) fun σ6 τ6 => B_pivot_l46 n x1 x2 x3 (x5 + (1 : Int32)) σ6 τ6))
def B_pivot_b18 (x1 : Int32) (x2 : Int32) (σ : mS) (τ : mT) : Option (mS × mT) :=
  if x1 < 0 ∨ 8 ≤ x1.toNatClampNeg then none else if x2 < 0 ∨ 14 ≤ x2.toNatClampNeg then none else if (lg_cmp (τ (17 + x1.toNatClampNeg) x2.toNatClampNeg) (0 : Int64)) = 0 then (some (σ, τ)) else (if (lg_cmp (τ 15 5) (0 : Int64)) = 0 then (some (σ, τ)) else (B_pivot_l46 mc_F x1 x2 (τ (17 + x1.toNatClampNeg) x2.toNatClampNeg) (0 : Int32) σ τ))
def B_pivot (p1 : Int32) (p2 : Int32) (σ : mS) (τ : mT) : Option (mS × mT) :=
  if p1 < 0 ∨ 8 ≤ p1.toNatClampNeg then none else if p2 < 0 ∨ 14 ≤ p2.toNatClampNeg then none else if 0 ≤ (lg_cmp (τ (17 + p1.toNatClampNeg) p2.toNatClampNeg) (0 : Int64)) then (B_pivot_b18 p1 p2 σ τ) else (ov (B_turnSigns p1 σ τ) fun σ4 τ4 => B_pivot_b18 p1 p2 σ4 τ4)
def B_driveOutMakeshift_l12 (k2 : Int32 → mS → mT → Option (mS × mT)) : Nat → Int32 → Int32 → mS → mT → Option (mS × mT)
  | 0, _, _, _, _ => none
  | n + 1, x1, x2, σ, τ =>
    if (σ 15 4) ≤ x2 then (k2 (x1 + (1 : Int32)) σ τ) else (if x1 < 0 ∨ 8 ≤ x1.toNatClampNeg then none else if (σ 25 x1.toNatClampNeg) < (13 : Int32) then (k2 (x1 + (1 : Int32)) σ τ) else (if x2 < 0 ∨ 14 ≤ x2.toNatClampNeg then none else if (lg_cmp (τ (17 + x1.toNatClampNeg) x2.toNatClampNeg) (0 : Int64)) = 0 then (B_driveOutMakeshift_l12 k2 n x1 (x2 + (1 : Int32)) σ τ) else (ov (B_pivot x1 x2 σ τ) fun σ6 τ6 => B_driveOutMakeshift_l12 k2 n x1 (x2 + (1 : Int32)) σ6 τ6)))
def B_driveOutMakeshift_l2 : Nat → Int32 → mS → mT → Option (mS × mT)
  | 0, _, _, _ => none
  | n + 1, x1, σ, τ =>
    if (σ 15 3) ≤ x1 then (some (σ, τ)) else (B_driveOutMakeshift_l12 (B_driveOutMakeshift_l2 n) mc_F x1 (0 : Int32) σ τ)
def B_driveOutMakeshift (σ : mS) (τ : mT) : Option (mS × mT) :=
  B_driveOutMakeshift_l2 mc_F (0 : Int32) σ τ
def B_firstThatLessensMakeshift_l2 : Nat → Int32 → mS → mT → Option (Int32 × mS × mT)
  | 0, _, _, _ => none
  | n + 1, x1, σ, τ =>
    if (σ 15 4) ≤ x1 then (some ((-1 : Int32), σ, τ)) else (ob (B_makeshift x1 σ τ) fun r2 σ2 τ2 => if (lg_cmp r2 (0 : Int64)) ≤ 0 then (B_firstThatLessensMakeshift_l2 n (x1 + (1 : Int32)) σ2 τ2) else (some (x1, σ2, τ2)))
def B_firstThatLessensMakeshift (σ : mS) (τ : mT) : Option (Int32 × mS × mT) :=
  B_firstThatLessensMakeshift_l2 mc_F (0 : Int32) σ τ
def B_leavesAhead (p1 : Int32) (p2 : Int32) (p3 : Int32) (σ : mS) (τ : mT) : Option (Int32 × mS × mT) :=
  if p1 < 0 ∨ 8 ≤ p1.toNatClampNeg then none else if p2 < 0 ∨ 8 ≤ p2.toNatClampNeg then none else if p3 < 0 ∨ 14 ≤ p3.toNatClampNeg then none else if (lg_cmp ((τ (17 + p1.toNatClampNeg) 13) * (τ (17 + p2.toNatClampNeg) p3.toNatClampNeg)) ((τ (17 + p2.toNatClampNeg) 13) * (τ (17 + p1.toNatClampNeg) p3.toNatClampNeg))) < 0 then (some ((1 : Int32), σ, τ)) else (if (lg_cmp ((τ (17 + p1.toNatClampNeg) 13) * (τ (17 + p2.toNatClampNeg) p3.toNatClampNeg)) ((τ (17 + p2.toNatClampNeg) 13) * (τ (17 + p1.toNatClampNeg) p3.toNatClampNeg))) = 0 then (if (σ 25 p2.toNatClampNeg) ≤ (σ 25 p1.toNatClampNeg) then (some ((0 : Int32), σ, τ)) else (some ((1 : Int32), σ, τ))) else (some ((0 : Int32), σ, τ)))
def B_leavingRow_l18 : Nat → Int32 → Int32 → Int32 → mS → mT → Option (Int32 × mS × mT)
  | 0, _, _, _, _, _ => none
  | n + 1, x1, x2, x3, σ, τ =>
    if (σ 15 3) ≤ x3 then (some (x2, σ, τ)) else (if x3 < 0 ∨ 8 ≤ x3.toNatClampNeg then none else if x1 < 0 ∨ 14 ≤ x1.toNatClampNeg then none else if (lg_cmp (τ (17 + x3.toNatClampNeg) x1.toNatClampNeg) (0 : Int64)) ≤ 0 then (B_leavingRow_l18 n x1 x2 (x3 + (1 : Int32)) σ τ) else (if x2 < 0 then (B_leavingRow_l18 n x1 x3 (x3 + (1 : Int32)) σ τ) else (ob (B_leavesAhead x3 x2 x1 σ τ) fun r6 σ6 τ6 => if r6 = 0 then (B_leavingRow_l18 n x1 x2 (x3 + (1 : Int32)) σ6 τ6) else (B_leavingRow_l18 n x1 x3 (x3 + (1 : Int32)) σ6 τ6))))
def B_leavingRow (p1 : Int32) (σ : mS) (τ : mT) : Option (Int32 × mS × mT) :=
  if p1 < 0 then (some ((-1 : Int32), σ, τ)) else (if p1 < (σ 15 4) then (B_leavingRow_l18 mc_F p1 (-1 : Int32) (0 : Int32) σ τ) else (some ((-1 : Int32), σ, τ)))
def B_solve_b38 (σ : mS) (τ : mT) : Option (Int32 × mS × mT) :=
  ob (B_makeshift (13 : Int32) σ τ) fun r1 σ1 τ1 => if (lg_cmp r1 (0 : Int64)) = 0 then (ov (B_driveOutMakeshift σ1 τ1) fun σ3 τ3 => some ((1 : Int32), σ3, τ3)) else (some ((0 : Int32), σ1, τ1))
def B_solve_l2 : Nat → Int32 → mS → mT → Option (Int32 × mS × mT)
  | 0, _, _, _ => none
  | n + 1, x1, σ, τ =>
    if (100000 : Int32) ≤ x1 then (B_solve_b38 σ τ) else (ob (B_firstThatLessensMakeshift σ τ) fun r2 σ2 τ2 => ob (B_leavingRow r2 σ2 τ2) fun r3 σ3 τ3 => if 0 ≤ r3 then (ov (B_pivot r3 r2 σ3 τ3) fun σ5 τ5 => B_solve_l2 n (x1 + (1 : Int32)) σ5 τ5) else (B_solve_b38 σ3 τ3))
def B_solve (σ : mS) (τ : mT) : Option (Int32 × mS × mT) :=
  B_solve_l2 mc_F (0 : Int32) σ τ
def R_isBalanced_2 (p2 : Int32) (σ : mS) (τ : mT) : Option (Int32 × mS × mT) :=
  ov (Y_find_2 σ τ) fun σ1 τ1 => ov (B_pose_2_6 p2 σ1 τ1) fun σ2 τ2 => ob (B_solve σ2 τ2) fun r3 σ3 τ3 => if ¬ r3 &&& 1 = r3 then none else some (r3, σ3, τ3)
def R_rests (σ : mS) (τ : mT) : Option (Int32 × mS × mT) :=
  ob (R_isBalanced_2 (0 : Int32) σ τ) fun r1 σ1 τ1 => if r1 = 0 then (some ((0 : Int32), σ1, τ1)) else (some ((1 : Int32), σ1, τ1))
def Q_all (σ : mS) (τ : mT) : Option (Int32 × mS × mT) :=
  ob (Q_many σ τ) fun r1 σ1 τ1 => some (((1 : Int32) <<< (r1 &&& 31)) - (1 : Int32), σ1, τ1)
def Q_layRow_b205 (x1 : Int32) (x2 : Int32) (x4 : Int32) (x5 : Int32) (x6 : Int32) (s1 : Int32) (s2 : Int64) (σ : mS) (τ : mT) : Option (mS × mT) :=
  if s1 < 0 ∨ 8 ≤ s1.toNatClampNeg then none else mw (u2L τ 46 s1.toNatClampNeg s2) fun τ2 => if x5 = 0 then (ob (Q_get x1 (3 : Int32) σ τ2) fun r4 σ4 τ4 => ob (Q_get x1 (2 : Int32) σ4 τ4) fun r5 σ5 τ5 => ob (Q_get x1 (4 : Int32) σ5 τ5) fun r6 σ6 τ6 => ob (Q_get x1 (5 : Int32) σ6 τ6) fun r7 σ7 τ7 => if (x2 + (1 : Int32)) < 0 ∨ 8 ≤ (x2 + (1 : Int32)).toNatClampNeg then none else mw (u2L τ7 46 (x2 + (1 : Int32)).toNatClampNeg (((r4 * r5) + (r6 * r7)).toInt64)) fun τ9 => some (σ7, τ9)) else (if x6 = 0 then (if (x2 + (1 : Int32)) < 0 ∨ 8 ≤ (x2 + (1 : Int32)).toNatClampNeg then none else mw (u2L τ2 46 (x2 + (1 : Int32)).toNatClampNeg (0 : Int64)) fun τ12 => some (σ, τ12)) else (if (x2 + (1 : Int32)) < 0 ∨ 8 ≤ (x2 + (1 : Int32)).toNatClampNeg then none else mw (u2L τ2 46 (x2 + (1 : Int32)).toNatClampNeg (x4.toInt64)) fun τ14 => some (σ, τ14)))
def Q_layRow_b167 (x1 : Int32) (x2 : Int32) (x4 : Int32) (x5 : Int32) (x6 : Int32) (s1 : Int32) (s2 : Int64) (σ : mS) (τ : mT) : Option (mS × mT) :=
  if s1 < 0 ∨ 128 ≤ s1.toNatClampNeg then none else mw (u2L τ 45 s1.toNatClampNeg s2) fun τ2 => if x5 = 0 then (ob (Q_get x1 (3 : Int32) σ τ2) fun r4 σ4 τ4 => ob (Q_get x1 (4 : Int32) σ4 τ4) fun r5 σ5 τ5 => Q_layRow_b205 x1 x2 x4 x5 x6 x2 ((r4 + r5).toInt64) σ5 τ5) else (if x6 = 0 then (Q_layRow_b205 x1 x2 x4 x5 x6 x2 (0 : Int64) σ τ2) else (Q_layRow_b205 x1 x2 x4 x5 x6 x2 (1 : Int64) σ τ2))
def Q_layRow_b137 (x1 : Int32) (x2 : Int32) (x4 : Int32) (x5 : Int32) (x6 : Int32) (s1 : Int32) (s2 : Int64) (σ : mS) (τ : mT) : Option (mS × mT) :=
  if s1 < 0 ∨ 128 ≤ s1.toNatClampNeg then none else mw (u2L τ 45 s1.toNatClampNeg s2) fun τ2 => if x6 = 0 then (Q_layRow_b167 x1 x2 x4 x5 x6 ((((16 : Int32) * x2) + (16 : Int32)) + (σ 34 9)) (0 : Int64) σ τ2) else (Q_layRow_b167 x1 x2 x4 x5 x6 ((((16 : Int32) * x2) + (16 : Int32)) + (σ 34 9)) ((-x4).toInt64) σ τ2)
def Q_layRow_b110 (x1 : Int32) (x2 : Int32) (x4 : Int32) (x5 : Int32) (s0 : Int32) (σ : mS) (τ : mT) : Option (mS × mT) :=
  if s0 = 0 then (Q_layRow_b137 x1 x2 x4 x5 s0 (((16 : Int32) * x2) + (σ 34 9)) (0 : Int64) σ τ) else (Q_layRow_b137 x1 x2 x4 x5 s0 (((16 : Int32) * x2) + (σ 34 9)) (-1 : Int64) σ τ)
def Q_layRow_b45 (k3 : Int32 → Int32 → Int32 → Int32 → Int32 → Int32 → mS → mT → Option (mS × mT)) (x1 : Int32) (x2 : Int32) (x3 : Int32) (x4 : Int32) (x5 : Int32) (x6 : Int32) (s0 : Int64) (σ : mS) (τ : mT) : Option (mS × mT) :=
  if (((16 : Int32) * x2) + x6) < 0 ∨ 128 ≤ (((16 : Int32) * x2) + x6).toNatClampNeg then none else mw (u2L τ 45 (((16 : Int32) * x2) + x6).toNatClampNeg s0) fun τ2 => if x6 < 0 ∨ 16 ≤ x6.toNatClampNeg then none else ob (Q_get x1 (1 : Int32) σ τ2) fun r4 σ4 τ4 => if ((((16 : Int32) * x2) + (16 : Int32)) + x6) < 0 ∨ 128 ≤ ((((16 : Int32) * x2) + (16 : Int32)) + x6).toNatClampNeg then none else mw (u2L τ4 45 ((((16 : Int32) * x2) + (16 : Int32)) + x6).toNatClampNeg (s0 * (((σ 44 x6.toNatClampNeg) - r4).toInt64))) fun τ6 => k3 x1 x2 x3 x4 x5 (x6 + (1 : Int32)) σ4 τ6
def Q_layRow_l3 : Nat → Int32 → Int32 → Int32 → Int32 → Int32 → Int32 → mS → mT → Option (mS × mT)
  | 0, _, _, _, _, _, _, _, _ => none
  | n + 1, x1, x2, x3, x4, x5, x6, σ, τ =>
    if (σ 34 9) ≤ x6 then (if x3 = x1 then (Q_layRow_b110 x1 x2 x4 x5 (1 : Int32) σ τ) else (Q_layRow_b110 x1 x2 x4 x5 (0 : Int32) σ τ)) else (if x6 < 0 ∨ 16 ≤ x6.toNatClampNeg then none else if (σ 42 x6.toNatClampNeg) = x1 then (Q_layRow_b45 (Q_layRow_l3 n) x1 x2 x3 x4 x5 x6 (1 : Int64) σ τ) else (if (σ 43 x6.toNatClampNeg) = x1 then (Q_layRow_b45 (Q_layRow_l3 n) x1 x2 x3 x4 x5 x6 (-1 : Int64) σ τ) else (Q_layRow_b45 (Q_layRow_l3 n) x1 x2 x3 x4 x5 x6 (0 : Int64) σ τ)))
def Q_layRow (p1 : Int32) (p2 : Int32) (p3 : Int32) (p4 : Int32) (p5 : Int32) (σ : mS) (τ : mT) : Option (mS × mT) :=
  Q_layRow_l3 mc_F p1 p2 p3 p4 p5 (0 : Int32) σ τ
def Q_layRows_l8 : Nat → Int32 → Int32 → Int32 → Int32 → Int32 → mS → mT → Option (mS × mT)
  | 0, _, _, _, _, _, _, _ => none
  | n + 1, x1, x2, x3, x4, x5, σ, τ =>
    ob (Q_many σ τ) fun r1 σ1 τ1 => if r1 ≤ x5 then (if x2 = (-9 : Int32) then (mw (u2 σ1 34 14 ((σ1 34 9) + (0 : Int32))) fun σ4 => some (σ4, τ1)) else (if x4 = 0 then (mw (u2 σ1 34 14 ((σ1 34 9) + (1 : Int32))) fun σ7 => some (σ7, τ1)) else (mw (u2 σ1 34 14 ((σ1 34 9) + (0 : Int32))) fun σ6 => some (σ6, τ1)))) else (ob (Q_has x1 x5 σ1 τ1) fun r8 σ8 τ8 => if r8 = 0 then (Q_layRows_l8 n x1 x2 x3 x4 (x5 + (1 : Int32)) σ8 τ8) else (ov (Q_layRow x5 (σ8 34 13) x2 x3 x4 σ8 τ8) fun σ10 τ10 => mw (u2 σ10 34 13 ((σ10 34 13) + (2 : Int32))) fun σ11 => Q_layRows_l8 n x1 x2 x3 x4 (x5 + (1 : Int32)) σ11 τ10))
def Q_layRows (p1 : Int32) (p2 : Int32) (p3 : Int32) (p4 : Int32) (σ : mS) (τ : mT) : Option (mS × mT) :=
  mw (u2 σ 34 13 (0 : Int32)) fun σ1 => Q_layRows_l8 mc_F p1 p2 p3 p4 (0 : Int32) σ1 τ
def Q_ones_l4 : Nat → Int32 → Int32 → Int32 → mS → mT → Option (Int32 × mS × mT)
  | 0, _, _, _, _, _ => none
  | n + 1, x0, x1, x2, σ, τ =>
    if (16 : Int32) ≤ x2 then (some (x1, σ, τ)) else (Q_ones_l4 n x0 (x1 + ((x0 >>> (x2 &&& 31)) &&& (1 : Int32))) (x2 + (1 : Int32)) σ τ)
def Q_ones (p0 : Int32) (σ : mS) (τ : mT) : Option (Int32 × mS × mT) :=
  Q_ones_l4 mc_F p0 (0 : Int32) (0 : Int32) σ τ
def Q_fills_l73 : Nat → Int32 → mS → mT → Option (mS × mT)
  | 0, _, _, _ => none
  | n + 1, x3, σ, τ =>
    if (σ 34 13) ≤ x3 then (some (σ, τ)) else (if x3 < 0 ∨ 8 ≤ x3.toNatClampNeg then none else if (((9 : Int32) * x3) + (σ 34 13)) < 0 ∨ 72 ≤ (((9 : Int32) * x3) + (σ 34 13)).toNatClampNeg then none else mw (u2L τ 47 (((9 : Int32) * x3) + (σ 34 13)).toNatClampNeg (τ 46 x3.toNatClampNeg)) fun τ4 => Q_fills_l73 n (x3 + (1 : Int32)) σ τ4)
def Q_fills_l23 (k4 : Int32 → Int32 → Int32 → mS → mT → Option (mS × mT)) : Nat → Int32 → Int32 → Int32 → Int32 → mS → mT → Option (mS × mT)
  | 0, _, _, _, _, _, _ => none
  | n + 1, x1, x2, x3, x4, σ, τ =>
    if (σ 34 13) ≤ x4 then (k4 x1 (x2 + (1 : Int32)) (x3 + (1 : Int32)) σ τ) else (if (((16 : Int32) * x4) + x3) < 0 ∨ 128 ≤ (((16 : Int32) * x4) + x3).toNatClampNeg then none else if (((9 : Int32) * x4) + x2) < 0 ∨ 72 ≤ (((9 : Int32) * x4) + x2).toNatClampNeg then none else mw (u2L τ 47 (((9 : Int32) * x4) + x2).toNatClampNeg (τ 45 (((16 : Int32) * x4) + x3).toNatClampNeg)) fun τ4 => Q_fills_l23 k4 n x1 x2 x3 (x4 + (1 : Int32)) σ τ4)
def Q_fills_l4 : Nat → Int32 → Int32 → Int32 → mS → mT → Option (mS × mT)
  | 0, _, _, _, _, _ => none
  | n + 1, x1, x2, x3, σ, τ =>
    if (σ 34 14) ≤ x3 then (Q_fills_l73 mc_F (0 : Int32) σ τ) else (ob (Q_has x1 x3 σ τ) fun r2 σ2 τ2 => if r2 = 0 then (Q_fills_l4 n x1 x2 (x3 + (1 : Int32)) σ2 τ2) else (Q_fills_l23 (Q_fills_l4 n) mc_F x1 x2 x3 (0 : Int32) σ2 τ2))
def Q_fills (p1 : Int32) (σ : mS) (τ : mT) : Option (mS × mT) :=
  Q_fills_l4 mc_F p1 (0 : Int32) (0 : Int32) σ τ
def Q_pivot_l10 : Nat → Int32 → Int32 → Int32 → mS → mT → Option (Int32 × mS × mT)
  | 0, _, _, _, _, _ => none
  | n + 1, x1, x2, x3, σ, τ =>
    if x3 < x1 then (some (x2, σ, τ)) else (if (((9 : Int32) * x3) + x1) < 0 ∨ 72 ≤ (((9 : Int32) * x3) + x1).toNatClampNeg then none else if (lg_cmp (τ 47 (((9 : Int32) * x3) + x1).toNatClampNeg) (0 : Int64)) = 0 then (Q_pivot_l10 n x1 x2 (x3 + (-1 : Int32)) σ τ) else (Q_pivot_l10 n x1 x3 (x3 + (-1 : Int32)) σ τ))
def Q_pivot (p1 : Int32) (σ : mS) (τ : mT) : Option (Int32 × mS × mT) :=
  Q_pivot_l10 mc_F p1 (-9 : Int32) ((σ 34 13) - (1 : Int32)) σ τ
def Q_swaps_l2 : Nat → Int32 → Int32 → Int32 → mS → mT → Option (mS × mT)
  | 0, _, _, _, _, _ => none
  | n + 1, x1, x2, x3, σ, τ =>
    if (σ 34 13) < x3 then (some (σ, τ)) else (if (((9 : Int32) * x1) + x3) < 0 ∨ 72 ≤ (((9 : Int32) * x1) + x3).toNatClampNeg then none else if (((9 : Int32) * x2) + x3) < 0 ∨ 72 ≤ (((9 : Int32) * x2) + x3).toNatClampNeg then none else mw (u2L τ 47 (((9 : Int32) * x1) + x3).toNatClampNeg (τ 47 (((9 : Int32) * x2) + x3).toNatClampNeg)) fun τ4 => mw (u2L τ4 47 (((9 : Int32) * x2) + x3).toNatClampNeg (τ 47 (((9 : Int32) * x1) + x3).toNatClampNeg)) fun τ5 => Q_swaps_l2 n x1 x2 (x3 + (1 : Int32)) σ τ5)
def Q_swaps (p1 : Int32) (p2 : Int32) (σ : mS) (τ : mT) : Option (mS × mT) :=
  Q_swaps_l2 mc_F p1 p2 (0 : Int32) σ τ
def Q_clears_l29 : Nat → Int32 → Int32 → Int64 → Int64 → Int64 → Int32 → mS → mT → Option (mS × mT)
  | 0, _, _, _, _, _, _, _, _ => none
  | n + 1, x1, x2, x3, x5, x7, x9, σ, τ =>
    if (σ 34 13) < x9 then (some (σ, τ)) else (if (((9 : Int32) * x1) + x9) < 0 ∨ 72 ≤ (((9 : Int32) * x1) + x9).toNatClampNeg then none else if (((9 : Int32) * x2) + x9) < 0 ∨ 72 ≤ (((9 : Int32) * x2) + x9).toNatClampNeg then none else if x3 = 0 then none else mw (u2L τ 47 (((9 : Int32) * x1) + x9).toNatClampNeg (((x5 * (τ 47 (((9 : Int32) * x1) + x9).toNatClampNeg)) - (x7 * (τ 47 (((9 : Int32) * x2) + x9).toNatClampNeg))) / x3)) fun τ5 => Q_clears_l29 n x1 x2 x3 x5 x7 (x9 + (1 : Int32)) σ τ5)
def Q_clears (p1 : Int32) (p2 : Int32) (p3 : Int64) (σ : mS) (τ : mT) : Option (mS × mT) :=
  if (((9 : Int32) * p2) + p2) < 0 ∨ 72 ≤ (((9 : Int32) * p2) + p2).toNatClampNeg then none else if (((9 : Int32) * p1) + p2) < 0 ∨ 72 ≤ (((9 : Int32) * p1) + p2).toNatClampNeg then none else Q_clears_l29 mc_F p1 p2 p3 (τ 47 (((9 : Int32) * p2) + p2).toNatClampNeg) (τ 47 (((9 : Int32) * p1) + p2).toNatClampNeg) (0 : Int32) σ τ
def Q_solves_l47 (k10 : Int64 → Int32 → mS → mT → Option (Int32 × mS × mT)) : Nat → Int64 → Int32 → Int32 → mS → mT → Option (Int32 × mS × mT)
  | 0, _, _, _, _, _ => none
  | n + 1, x2, x4, x6, σ, τ =>
    if (σ 34 13) ≤ x6 then (if (((9 : Int32) * x4) + x4) < 0 ∨ 72 ≤ (((9 : Int32) * x4) + x4).toNatClampNeg then none else k10 (τ 47 (((9 : Int32) * x4) + x4).toNatClampNeg) (x4 + (1 : Int32)) σ τ) else (if x6 = x4 then (Q_solves_l47 k10 n x2 x4 (x6 + (1 : Int32)) σ τ) else (ov (Q_clears x6 x4 x2 σ τ) fun σ4 τ4 => Q_solves_l47 k10 n x2 x4 (x6 + (1 : Int32)) σ4 τ4))
def Q_solves_l10 : Nat → Int64 → Int32 → mS → mT → Option (Int32 × mS × mT)
  | 0, _, _, _, _ => none
  | n + 1, x2, x4, σ, τ =>
    if (σ 34 13) ≤ x4 then (some ((1 : Int32), σ, τ)) else (ob (Q_pivot x4 σ τ) fun r2 σ2 τ2 => if r2 = (-9 : Int32) then (some ((0 : Int32), σ2, τ2)) else (ov (Q_swaps r2 x4 σ2 τ2) fun σ4 τ4 => Q_solves_l47 (Q_solves_l10 n) mc_F x2 x4 (0 : Int32) σ4 τ4))
def Q_solves (p1 : Int32) (σ : mS) (τ : mT) : Option (Int32 × mS × mT) :=
  ov (Q_fills p1 σ τ) fun σ1 τ1 => Q_solves_l10 mc_F (1 : Int64) (0 : Int32) σ1 τ1
def Q_divisor (σ : mS) (τ : mT) : Option (Int64 × mS × mT) :=
  if (σ 34 13) = 0 then (some ((1 : Int64), σ, τ)) else (if ((((9 : Int32) * ((σ 34 13) - (1 : Int32))) + (σ 34 13)) - (1 : Int32)) < 0 ∨ 72 ≤ ((((9 : Int32) * ((σ 34 13) - (1 : Int32))) + (σ 34 13)) - (1 : Int32)).toNatClampNeg then none else some (τ 47 ((((9 : Int32) * ((σ 34 13) - (1 : Int32))) + (σ 34 13)) - (1 : Int32)).toNatClampNeg, σ, τ))
def Q_isNoneBelow_b68 (k19 : Int32 → Int32 → Int32 → mS → mT → Option (Int32 × mS × mT)) (x1 : Int32) (x3 : Int32) (σ : mS) (τ : mT) : Option (Int32 × mS × mT) :=
  k19 x1 (1 : Int32) (x3 + (1 : Int32)) σ τ
def Q_isNoneBelow_l19 : Nat → Int32 → Int32 → Int32 → mS → mT → Option (Int32 × mS × mT)
  | 0, _, _, _, _, _ => none
  | n + 1, x1, x2, x3, σ, τ =>
    if (σ 34 13) ≤ x3 then (if ¬ x2 &&& 1 = x2 then none else some (x2, σ, τ)) else (if (((9 : Int32) * x3) + (σ 34 13)) < 0 ∨ 72 ≤ (((9 : Int32) * x3) + (σ 34 13)).toNatClampNeg then none else if x2 = 0 then (Q_isNoneBelow_l19 n x1 (0 : Int32) (x3 + (1 : Int32)) σ τ) else (if x1 = 0 then (if 0 < (lg_cmp (τ 47 (((9 : Int32) * x3) + (σ 34 13)).toNatClampNeg) (0 : Int64)) then (Q_isNoneBelow_l19 n x1 (0 : Int32) (x3 + (1 : Int32)) σ τ) else (Q_isNoneBelow_b68 (Q_isNoneBelow_l19 n) x1 x3 σ τ)) else (if (lg_cmp (τ 47 (((9 : Int32) * x3) + (σ 34 13)).toNatClampNeg) (0 : Int64)) < 0 then (Q_isNoneBelow_l19 n x1 (0 : Int32) (x3 + (1 : Int32)) σ τ) else (Q_isNoneBelow_b68 (Q_isNoneBelow_l19 n) x1 x3 σ τ))))
def Q_isNoneBelow_b14 (s0 : Int32) (σ : mS) (τ : mT) : Option (Int32 × mS × mT) :=
  Q_isNoneBelow_l19 mc_F s0 (1 : Int32) (0 : Int32) σ τ
def Q_isNoneBelow (σ : mS) (τ : mT) : Option (Int32 × mS × mT) :=
  ob (Q_divisor σ τ) fun r1 σ1 τ1 => if (lg_cmp r1 (0 : Int64)) ≤ 0 then (Q_isNoneBelow_b14 (0 : Int32) σ1 τ1) else (Q_isNoneBelow_b14 (1 : Int32) σ1 τ1)
def Q_solved (p1 : Int32) (p2 : Int32) (σ : mS) (τ : mT) : Option (Int64 × mS × mT) :=
  if p2 = (-9 : Int32) then (some ((0 : Int64), σ, τ)) else (ob (Q_has p1 p2 σ τ) fun r2 σ2 τ2 => if r2 = 0 then (some ((0 : Int64), σ2, τ2)) else (ob (Q_ones (p1 &&& (((1 : Int32) <<< (p2 &&& 31)) - (1 : Int32))) σ2 τ2) fun r4 σ4 τ4 => if (((9 : Int32) * r4) + (σ4 34 13)) < 0 ∨ 72 ≤ (((9 : Int32) * r4) + (σ4 34 13)).toNatClampNeg then none else ob (Q_divisor σ4 τ4) fun r6 σ6 τ6 => if (lg_cmp r6 (0 : Int64)) ≤ 0 then (some (-(τ4 47 (((9 : Int32) * r4) + (σ4 34 13)).toNatClampNeg), σ6, τ6)) else (some (τ4 47 (((9 : Int32) * r4) + (σ4 34 13)).toNatClampNeg, σ6, τ6))))
def Q_meets_b56 (x1 : Int64) (x3 : Int64) (σ : mS) (τ : mT) : Option (mS × mT) :=
  mw (u2L τ 34 21 x1) fun τ1 => mw (u2L τ1 34 22 x3) fun τ2 => mw (u2 σ 34 18 (1 : Int32)) fun σ3 => some (σ3, τ2)
def Q_meets_b33 (x1 : Int64) (x3 : Int64) (σ : mS) (τ : mT) : Option (mS × mT) :=
  if (σ 34 18) = 0 then (Q_meets_b56 x1 x3 σ τ) else (if (lg_cmp (x1 * (τ 34 22)) ((τ 34 21) * x3)) ≤ 0 then (mw (u2 σ 34 18 (1 : Int32)) fun σ3 => some (σ3, τ)) else (Q_meets_b56 x1 x3 σ τ))
def Q_meets_b23 (x1 : Int64) (x3 : Int64) (σ : mS) (τ : mT) : Option (mS × mT) :=
  mw (u2L τ 34 19 x1) fun τ1 => mw (u2L τ1 34 20 x3) fun τ2 => Q_meets_b33 x1 x3 σ τ2
def Q_meets (p1 : Int64) (p2 : Int64) (σ : mS) (τ : mT) : Option (mS × mT) :=
  if (σ 34 18) = 0 then (Q_meets_b23 p1 p2 σ τ) else (if 0 ≤ (lg_cmp (p1 * (τ 34 20)) ((τ 34 19) * p2)) then (Q_meets_b33 p1 p2 σ τ) else (Q_meets_b23 p1 p2 σ τ))
def Q_seeks_b67 (k7 : Int32 → Int32 → mS → mT → Option (mS × mT)) (x1 : Int32) (x2 : Int32) (s1 : Int64) (s2 : Int64) (σ : mS) (τ : mT) : Option (mS × mT) :=
  ov (Q_meets s1 s2 σ τ) fun σ1 τ1 => k7 x1 (x2 + (1 : Int32)) σ1 τ1
def Q_seeks_l7 : Nat → Int32 → Int32 → mS → mT → Option (mS × mT)
  | 0, _, _, _, _ => none
  | n + 1, x1, x2, σ, τ =>
    if ((1 : Int32) <<< ((σ 34 14) &&& 31)) ≤ x2 then (some (σ, τ)) else (ob (Q_ones x2 σ τ) fun r2 σ2 τ2 => if r2 = (σ2 34 13) then (ob (Q_solves x2 σ2 τ2) fun r4 σ4 τ4 => if r4 = 0 then (Q_seeks_l7 n x1 (x2 + (1 : Int32)) σ4 τ4) else (ob (Q_isNoneBelow σ4 τ4) fun r6 σ6 τ6 => if r6 = 0 then (Q_seeks_l7 n x1 (x2 + (1 : Int32)) σ6 τ6) else (ob (Q_divisor σ6 τ6) fun r8 σ8 τ8 => ob (Q_solved x2 x1 σ8 τ8) fun r9 σ9 τ9 => if 0 ≤ (lg_cmp r8 (0 : Int64)) then (Q_seeks_b67 (Q_seeks_l7 n) x1 x2 r9 r8 σ9 τ9) else (Q_seeks_b67 (Q_seeks_l7 n) x1 x2 r9 (-r8) σ9 τ9)))) else (Q_seeks_l7 n x1 (x2 + (1 : Int32)) σ2 τ2))
def Q_seeks (p1 : Int32) (σ : mS) (τ : mT) : Option (mS × mT) :=
  mw (u2 σ 34 18 (0 : Int32)) fun σ1 => Q_seeks_l7 mc_F p1 (0 : Int32) σ1 τ
def Q_canBalance (p1 : Int32) (σ : mS) (τ : mT) : Option (Int32 × mS × mT) :=
  ov (Q_layAll σ τ) fun σ1 τ1 => ov (Q_layRows p1 (-9 : Int32) (0 : Int32) (0 : Int32) σ1 τ1) fun σ2 τ2 => ov (Q_seeks (-9 : Int32) σ2 τ2) fun σ3 τ3 => if ¬ (σ3 34 18) &&& 1 = (σ3 34 18) then none else some (σ3 34 18, σ3, τ3)
def Q_isResting (σ : mS) (τ : mT) : Option (Int32 × mS × mT) :=
  ob (Q_all σ τ) fun r1 σ1 τ1 => ob (Q_canBalance r1 σ1 τ1) fun r2 σ2 τ2 => if ¬ r2 &&& 1 = r2 then none else some (r2, σ2, τ2)
def Q_rests (σ : mS) (τ : mT) : Option (Int32 × mS × mT) :=
  ob (Q_isResting σ τ) fun r1 σ1 τ1 => if r1 = 0 then (some ((0 : Int32), σ1, τ1)) else (some ((1 : Int32), σ1, τ1))
def B_rowThatGives_l2 : Nat → Int32 → Int32 → mS → mT → Option (Int32 × mS × mT)
  | 0, _, _, _, _ => none
  | n + 1, x1, x2, σ, τ =>
    if (σ 15 3) ≤ x2 then (some ((-1 : Int32), σ, τ)) else (if x2 < 0 ∨ 8 ≤ x2.toNatClampNeg then none else if (σ 25 x2.toNatClampNeg) = x1 then (some (x2, σ, τ)) else (B_rowThatGives_l2 n x1 (x2 + (1 : Int32)) σ τ))
def B_rowThatGives (p1 : Int32) (σ : mS) (τ : mT) : Option (Int32 × mS × mT) :=
  B_rowThatGives_l2 mc_F p1 (0 : Int32) σ τ
def B_firstOfSign_l17 : Nat → Int32 → Int32 → Int32 → Int32 → mS → mT → Option (Int32 × mS × mT)
  | 0, _, _, _, _, _, _ => none
  | n + 1, x1, x2, x3, x4, σ, τ =>
    if (σ 15 4) ≤ x4 then (some ((-1 : Int32), σ, τ)) else (if x4 = x2 then (B_firstOfSign_l17 n x1 x2 x3 (x4 + (1 : Int32)) σ τ) else (if x1 < 0 ∨ 8 ≤ x1.toNatClampNeg then none else if x4 < 0 ∨ 14 ≤ x4.toNatClampNeg then none else if (lg_cmp ((x3.toInt64) * (τ (17 + x1.toNatClampNeg) x4.toNatClampNeg)) (0 : Int64)) ≤ 0 then (B_firstOfSign_l17 n x1 x2 x3 (x4 + (1 : Int32)) σ τ) else (some (x4, σ, τ))))
def B_firstOfSign (p1 : Int32) (p2 : Int32) (p3 : Int32) (σ : mS) (τ : mT) : Option (Int32 × mS × mT) :=
  if p1 < 0 then (some ((-1 : Int32), σ, τ)) else (if p1 < (σ 15 3) then (B_firstOfSign_l17 mc_F p1 p2 p3 (0 : Int32) σ τ) else (some ((-1 : Int32), σ, τ)))
def B_makeGreatest_l28 : Nat → Int32 → Int32 → mS → mT → Option (Int32 × mS × mT)
  | 0, _, _, _, _ => none
  | n + 1, x1, x2, σ, τ =>
    if (100000 : Int32) ≤ x2 then (some ((1 : Int32), σ, τ)) else (ob (B_rowThatGives x1 σ τ) fun r2 σ2 τ2 => ob (B_firstOfSign r2 x1 (-1 : Int32) σ2 τ2) fun r3 σ3 τ3 => if 0 ≤ r3 then (ob (B_leavingRow r3 σ3 τ3) fun r5 σ5 τ5 => if 0 ≤ r5 then (ov (B_pivot r5 r3 σ5 τ5) fun σ7 τ7 => B_makeGreatest_l28 n x1 (x2 + (1 : Int32)) σ7 τ7) else (some ((0 : Int32), σ5, τ5))) else (some ((1 : Int32), σ3, τ3)))
def B_makeGreatest (p1 : Int32) (σ : mS) (τ : mT) : Option (Int32 × mS × mT) :=
  ob (B_rowThatGives p1 σ τ) fun r1 σ1 τ1 => if 0 ≤ r1 then (B_makeGreatest_l28 mc_F p1 (0 : Int32) σ1 τ1) else (ob (B_leavingRow p1 σ1 τ1) fun r3 σ3 τ3 => if 0 ≤ r3 then (ov (B_pivot r3 p1 σ3 τ3) fun σ5 τ5 => B_makeGreatest_l28 mc_F p1 (0 : Int32) σ5 τ5) else (some ((0 : Int32), σ3, τ3)))
def B_commonDivisor_b51 (x4 : Int64) (σ : mS) (τ : mT) : Option (Int64 × mS × mT) :=
  if (lg_cmp x4 (0 : Int64)) = 0 then (some ((1 : Int64), σ, τ)) else (some (x4, σ, τ))
def B_commonDivisor_l15 : Nat → Int64 → Int64 → Int32 → mS → mT → Option (Int64 × mS × mT)
  | 0, _, _, _, _, _ => none
  | n + 1, x4, x6, x8, σ, τ =>
    if (200 : Int32) ≤ x8 then (B_commonDivisor_b51 x4 σ τ) else (if (lg_cmp x6 (0 : Int64)) = 0 then (B_commonDivisor_b51 x4 σ τ) else (if x6 = 0 then none else B_commonDivisor_l15 n x6 (x4 - x4 / x6 * x6) (x8 + (1 : Int32)) σ τ))
def B_commonDivisor (p0 : Int64) (p1 : Int64) (σ : mS) (τ : mT) : Option (Int64 × mS × mT) :=
  B_commonDivisor_l15 mc_F (jabs p0) (jabs p1) (0 : Int32) σ τ
def B_denominator (p1 : Int32) (σ : mS) (τ : mT) : Option (Int64 × mS × mT) :=
  ob (B_rowThatGives p1 σ τ) fun r1 σ1 τ1 => if 0 ≤ r1 then (if r1 < 0 ∨ 8 ≤ r1.toNatClampNeg then none else ob (B_commonDivisor (τ1 (17 + r1.toNatClampNeg) 13) (τ1 15 5) σ1 τ1) fun r4 σ4 τ4 => if r4 = 0 then none else some ((τ1 15 5) / r4, σ4, τ4)) else (some ((1 : Int64), σ1, τ1))
def B_numerator (p1 : Int32) (σ : mS) (τ : mT) : Option (Int64 × mS × mT) :=
  ob (B_rowThatGives p1 σ τ) fun r1 σ1 τ1 => if 0 ≤ r1 then (if r1 < 0 ∨ 8 ≤ r1.toNatClampNeg then none else ob (B_commonDivisor (τ1 (17 + r1.toNatClampNeg) 13) (τ1 15 5) σ1 τ1) fun r4 σ4 τ4 => if r4 = 0 then none else some ((τ1 (17 + r1.toNatClampNeg) 13) / r4, σ4, τ4)) else (some ((0 : Int64), σ1, τ1))
def B_makeLeast_l2 : Nat → Int32 → Int32 → mS → mT → Option (mS × mT)
  | 0, _, _, _, _ => none
  | n + 1, x1, x2, σ, τ =>
    if (100000 : Int32) ≤ x2 then (some (σ, τ)) else (ob (B_rowThatGives x1 σ τ) fun r2 σ2 τ2 => ob (B_firstOfSign r2 x1 (1 : Int32) σ2 τ2) fun r3 σ3 τ3 => ob (B_leavingRow r3 σ3 τ3) fun r4 σ4 τ4 => if 0 ≤ r4 then (ov (B_pivot r4 r3 σ4 τ4) fun σ6 τ6 => B_makeLeast_l2 n x1 (x2 + (1 : Int32)) σ6 τ6) else (some (σ4, τ4)))
def B_makeLeast (p1 : Int32) (σ : mS) (τ : mT) : Option (mS × mT) :=
  B_makeLeast_l2 mc_F p1 (0 : Int32) σ τ
def R_extreme_b45 (x1 : Int32) (x2 : Int32) (σ : mS) (τ : mT) : Option (Int64 × mS × mT) :=
  if (x2 - x2 / (2 : Int32) * (2 : Int32)) = 0 then (ob (B_numerator x1 σ τ) fun r3 σ3 τ3 => some (r3, σ3, τ3)) else (ob (B_denominator x1 σ τ) fun r2 σ2 τ2 => some (r2, σ2, τ2))
def R_extreme (p1 : Int32) (p2 : Int32) (σ : mS) (τ : mT) : Option (Int64 × mS × mT) :=
  ob (B_solve σ τ) fun r1 σ1 τ1 => if r1 = 0 then (some ((-9 : Int64), σ1, τ1)) else (if (2 : Int32) ≤ p2 then (ob (B_makeGreatest p1 σ1 τ1) fun r4 σ4 τ4 => if r4 = 0 then (some ((-5 : Int64), σ4, τ4)) else (R_extreme_b45 p1 p2 σ4 τ4)) else (ov (B_makeLeast p1 σ1 τ1) fun σ6 τ6 => R_extreme_b45 p1 p2 σ6 τ6))
def R_bounds (p1 : Int32) (p2 : Int32) (σ : mS) (τ : mT) : Option (Int64 × mS × mT) :=
  ov (Y_find_2 σ τ) fun σ1 τ1 => ob (Y_contacts σ1 τ1) fun r2 σ2 τ2 => ob (R_within p1 (0 : Int32) (r2 - (1 : Int32)) σ2 τ2) fun r3 σ3 τ3 => if r3 = 0 then (some ((-1 : Int64), σ3, τ3)) else (ob (R_within p2 (0 : Int32) (3 : Int32) σ3 τ3) fun r5 σ5 τ5 => if r5 = 0 then (some ((-1 : Int64), σ5, τ5)) else (ov (B_pose_2_6 (0 : Int32) σ5 τ5) fun σ7 τ7 => ob (R_extreme p1 p2 σ7 τ7) fun r8 σ8 τ8 => some (r8, σ8, τ8)))
def Q_common_l6 : Nat → Int64 → Int64 → mS → mT → Option (Int64 × mS × mT)
  | 0, _, _, _, _ => none
  | n + 1, x4, x6, σ, τ =>
    if (lg_cmp x6 (0 : Int64)) = 0 then (some (x4, σ, τ)) else (if x6 = 0 then none else Q_common_l6 n x6 (x4 - x4 / x6 * x6) σ τ)
def Q_common (p0 : Int64) (p1 : Int64) (σ : mS) (τ : mT) : Option (Int64 × mS × mT) :=
  Q_common_l6 mc_F p0 p1 σ τ
def Q_told_b33 (x1 : Int32) (x2 : Int64) (s0 : Int64) (σ : mS) (τ : mT) : Option (Int64 × mS × mT) :=
  ob (Q_common s0 x2 σ τ) fun r1 σ1 τ1 => if (x1 - x1 / (2 : Int32) * (2 : Int32)) = 0 then (if r1 = 0 then none else some (x2 / r1, σ1, τ1)) else (if r1 = 0 then none else some (s0 / r1, σ1, τ1))
def Q_told_b16 (x1 : Int32) (s0 : Int64) (σ : mS) (τ : mT) : Option (Int64 × mS × mT) :=
  if (2 : Int32) ≤ x1 then (Q_told_b33 x1 s0 (τ 34 22) σ τ) else (Q_told_b33 x1 s0 (τ 34 20) σ τ)
def Q_told (p1 : Int32) (σ : mS) (τ : mT) : Option (Int64 × mS × mT) :=
  if (2 : Int32) ≤ p1 then (Q_told_b16 p1 (τ 34 21) σ τ) else (Q_told_b16 p1 (τ 34 19) σ τ)
def Q_bounds (p1 : Int32) (p2 : Int32) (σ : mS) (τ : mT) : Option (Int64 × mS × mT) :=
  ob (Q_isContact p1 σ τ) fun r1 σ1 τ1 => if r1 = 0 then (some ((-1 : Int64), σ1, τ1)) else (ob (Q_within p2 (0 : Int32) (3 : Int32) σ1 τ1) fun r3 σ3 τ3 => if r3 = 0 then (some ((-1 : Int64), σ3, τ3)) else (ob (Q_all σ3 τ3) fun r5 σ5 τ5 => ov (Q_layRows r5 (-9 : Int32) (0 : Int32) (0 : Int32) σ5 τ5) fun σ6 τ6 => ov (Q_seeks p1 σ6 τ6) fun σ7 τ7 => if (σ7 34 18) = 0 then (some ((-9 : Int64), σ7, τ7)) else (ob (Q_told p2 σ7 τ7) fun r9 σ9 τ9 => some (r9, σ9, τ9))))
def B_poseLoad_b100 (x3 : Int32) (σ : mS) (τ : mT) : Option (Int32 × mS × mT) :=
  mw (u2 σ 15 4 ((σ 15 4) + (1 : Int32))) fun σ1 => some (x3, σ1, τ)
def B_poseLoad_l25 : Nat → Int32 → Int32 → Int32 → Int32 → mS → mT → Option (Int32 × mS × mT)
  | 0, _, _, _, _, _, _ => none
  | n + 1, x1, x2, x3, x4, σ, τ =>
    if (σ 15 3) ≤ x4 then (if x1 < 0 ∨ 4 ≤ x1.toNatClampNeg then none else if (σ 26 x1.toNatClampNeg) < 0 then (B_poseLoad_b100 x3 σ τ) else (if (σ 15 3) ≤ ((σ 26 x1.toNatClampNeg) + (1 : Int32)) then (B_poseLoad_b100 x3 σ τ) else (if (σ 26 x1.toNatClampNeg) < 0 ∨ 8 ≤ (σ 26 x1.toNatClampNeg).toNatClampNeg then none else if x3 < 0 ∨ 14 ≤ x3.toNatClampNeg then none else mw (u2L τ (17 + (σ 26 x1.toNatClampNeg).toNatClampNeg) x3.toNatClampNeg (-1 : Int64)) fun τ7 => if ((σ 26 x1.toNatClampNeg) + (1 : Int32)) < 0 ∨ 8 ≤ ((σ 26 x1.toNatClampNeg) + (1 : Int32)).toNatClampNeg then none else mw (u2L τ7 (17 + ((σ 26 x1.toNatClampNeg) + (1 : Int32)).toNatClampNeg) x3.toNatClampNeg ((-x2).toInt64)) fun τ9 => B_poseLoad_b100 x3 σ τ9))) else (if x4 < 0 ∨ 8 ≤ x4.toNatClampNeg then none else if x3 < 0 ∨ 14 ≤ x3.toNatClampNeg then none else mw (u2L τ (17 + x4.toNatClampNeg) x3.toNatClampNeg (0 : Int64)) fun τ12 => B_poseLoad_l25 n x1 x2 x3 (x4 + (1 : Int32)) σ τ12)
def B_poseLoad (p1 : Int32) (p2 : Int32) (σ : mS) (τ : mT) : Option (Int32 × mS × mT) :=
  if (13 : Int32) ≤ (σ 15 4) then (some ((-1 : Int32), σ, τ)) else (ob (R_within p1 (0 : Int32) (3 : Int32) σ τ) fun r2 σ2 τ2 => if r2 = 0 then (some ((-1 : Int32), σ2, τ2)) else (B_poseLoad_l25 mc_F p1 p2 (σ 15 4) (0 : Int32) σ2 τ2))
def R_bears (p1 : Int32) (p2 : Int32) (p3 : Int32) (σ : mS) (τ : mT) : Option (Int64 × mS × mT) :=
  ob (R_isSpot p1 p2 σ τ) fun r1 σ1 τ1 => if r1 = 0 then (some ((-1 : Int64), σ1, τ1)) else (ob (R_within p3 (0 : Int32) (3 : Int32) σ1 τ1) fun r3 σ3 τ3 => if r3 = 0 then (some ((-1 : Int64), σ3, τ3)) else (ov (Y_find_2 σ3 τ3) fun σ5 τ5 => ov (B_pose_2_6 (0 : Int32) σ5 τ5) fun σ6 τ6 => ob (B_poseLoad p1 p2 σ6 τ6) fun r7 σ7 τ7 => ob (R_extreme r7 p3 σ7 τ7) fun r8 σ8 τ8 => some (r8, σ8, τ8)))
def Q_bears_b97 (x3 : Int32) (σ : mS) (τ : mT) : Option (Int64 × mS × mT) :=
  ob (Q_told x3 σ τ) fun r1 σ1 τ1 => some (r1, σ1, τ1)
def Q_bears (p1 : Int32) (p2 : Int32) (p3 : Int32) (σ : mS) (τ : mT) : Option (Int64 × mS × mT) :=
  ob (Q_isSpot p1 p2 σ τ) fun r1 σ1 τ1 => if r1 = 0 then (some ((-1 : Int64), σ1, τ1)) else (ob (Q_within p3 (0 : Int32) (3 : Int32) σ1 τ1) fun r3 σ3 τ3 => if r3 = 0 then (some ((-1 : Int64), σ3, τ3)) else (ov (Q_layAll σ3 τ3) fun σ5 τ5 => ob (Q_all σ5 τ5) fun r6 σ6 τ6 => ov (Q_layRows r6 p1 p2 (1 : Int32) σ6 τ6) fun σ7 τ7 => ov (Q_seeks (-9 : Int32) σ7 τ7) fun σ8 τ8 => ob (Q_all σ8 τ8) fun r9 σ9 τ9 => ov (Q_layRows r9 p1 p2 (0 : Int32) σ9 τ9) fun σ10 τ10 => ov (Q_seeks (σ10 34 9) σ10 τ10) fun σ11 τ11 => if (σ11 34 18) = 0 then (some ((-9 : Int64), σ11, τ11)) else (if p3 ≤ (1 : Int32) then (Q_bears_b97 p3 σ11 τ11) else (if (σ8 34 18) = 0 then (Q_bears_b97 p3 σ11 τ11) else (some ((-5 : Int64), σ11, τ11))))))
def P_copy_4_2 (σ : mS) (τ : mT) : Option (mS × mT) :=
  mw (u1 σ 5 (va_cpy (σ 3) (σ 5) 0 0 21)) fun σ1 => some (σ1, τ)
def Y_find_4_l19 : Nat → Int32 → mS → mT → Option (mS × mT)
  | 0, _, _, _ => none
  | n + 1, x2, σ, τ =>
    if (σ 6 8) ≤ x2 then (some (σ, τ)) else (ob (P_get_4 x2 (0 : Int32) σ τ) fun r2 σ2 τ2 => if x2 < 0 ∨ 4 ≤ x2.toNatClampNeg then none else mw (u2 σ2 7 x2.toNatClampNeg r2) fun σ4 => ob (P_get_4 x2 (1 : Int32) σ4 τ2) fun r5 σ5 τ5 => mw (u2 σ5 8 x2.toNatClampNeg ((σ4 7 x2.toNatClampNeg) + ((2 : Int32) * r5))) fun σ6 => mw (u2 σ6 11 x2.toNatClampNeg (0 : Int32)) fun σ7 => ov (Y_findLevel x2 σ7 τ5) fun σ8 τ8 => ov (Y_findUnder x2 σ8 τ8) fun σ9 τ9 => ov (Y_findContacts x2 σ9 τ9) fun σ10 τ10 => Y_find_4_l19 n (x2 + (1 : Int32)) σ10 τ10)
def Y_find_4 (σ : mS) (τ : mT) : Option (mS × mT) :=
  ob (P_size_4 σ τ) fun r1 σ1 τ1 => mw (u2 σ1 6 8 (jmin r1 (4 : Int32))) fun σ2 => mw (u2 σ2 6 9 (0 : Int32)) fun σ3 => Y_find_4_l19 mc_F (0 : Int32) σ3 τ1
def B_poseBlock_4_6_b93 (k55 : Int32 → Int32 → Int32 → mS → mT → Option (mS × mT)) (x3 : Int32) (x4 : Int32) (x5 : Int32) (s0 : Int32) (σ : mS) (τ : mT) : Option (mS × mT) :=
  if x4 < 0 ∨ 8 ≤ x4.toNatClampNeg then none else if x5 < 0 ∨ 14 ≤ x5.toNatClampNeg then none else mw (u2L τ (17 + x4.toNatClampNeg) x5.toNatClampNeg (s0.toInt64)) fun τ3 => if (x4 + (1 : Int32)) < 0 ∨ 8 ≤ (x4 + (1 : Int32)).toNatClampNeg then none else ob (Y_x x5 σ τ3) fun r5 σ5 τ5 => ob (P_get_4 x3 (0 : Int32) σ5 τ5) fun r6 σ6 τ6 => mw (u2L τ6 (17 + (x4 + (1 : Int32)).toNatClampNeg) x5.toNatClampNeg ((s0 * (r5 - r6)).toInt64)) fun τ7 => k55 x3 x4 (x5 + (1 : Int32)) σ6 τ7
def B_poseBlock_4_6_l55 : Nat → Int32 → Int32 → Int32 → mS → mT → Option (mS × mT)
  | 0, _, _, _, _, _ => none
  | n + 1, x3, x4, x5, σ, τ =>
    if (σ 15 4) ≤ x5 then (ob (P_get_4 x3 (2 : Int32) σ τ) fun r2 σ2 τ2 => ob (P_get_4 x3 (3 : Int32) σ2 τ2) fun r3 σ3 τ3 => if x4 < 0 ∨ 8 ≤ x4.toNatClampNeg then none else mw (u2L τ3 (17 + x4.toNatClampNeg) 13 ((r2 + r3).toInt64)) fun τ5 => if (x4 + (1 : Int32)) < 0 ∨ 8 ≤ (x4 + (1 : Int32)).toNatClampNeg then none else ob (P_get_4 x3 (1 : Int32) σ3 τ5) fun r7 σ7 τ7 => ob (P_get_4 x3 (4 : Int32) σ7 τ7) fun r8 σ8 τ8 => mw (u2L τ8 (17 + (x4 + (1 : Int32)).toNatClampNeg) 13 (((r2 * r7) + (r3 * r8)).toInt64)) fun τ9 => some (σ8, τ9)) else (ob (Y_upper x5 σ τ) fun r10 σ10 τ10 => if r10 = x3 then (B_poseBlock_4_6_b93 (B_poseBlock_4_6_l55 n) x3 x4 x5 (1 : Int32) σ10 τ10) else (ob (Y_lower x5 σ10 τ10) fun r12 σ12 τ12 => if r12 = x3 then (B_poseBlock_4_6_b93 (B_poseBlock_4_6_l55 n) x3 x4 x5 (-1 : Int32) σ12 τ12) else (B_poseBlock_4_6_b93 (B_poseBlock_4_6_l55 n) x3 x4 x5 (0 : Int32) σ12 τ12)))
def B_poseBlock_4_6 (p3 : Int32) (σ : mS) (τ : mT) : Option (mS × mT) :=
  mw (u2 σ 15 3 ((σ 15 3) + (2 : Int32))) fun σ1 => if p3 < 0 ∨ 4 ≤ p3.toNatClampNeg then none else mw (u2 σ1 26 p3.toNatClampNeg (σ 15 3)) fun σ3 => if (σ 15 3) < 0 ∨ 8 ≤ (σ 15 3).toNatClampNeg then none else mw (u2 σ3 25 (σ 15 3).toNatClampNeg ((13 : Int32) + (σ 15 3))) fun σ5 => if ((σ 15 3) + (1 : Int32)) < 0 ∨ 8 ≤ ((σ 15 3) + (1 : Int32)).toNatClampNeg then none else mw (u2 σ5 25 ((σ 15 3) + (1 : Int32)).toNatClampNeg (((13 : Int32) + (σ 15 3)) + (1 : Int32))) fun σ7 => B_poseBlock_4_6_l55 mc_F p3 (σ 15 3) (0 : Int32) σ7 τ
def B_pose_4_6_l26 : Nat → Int32 → Int32 → mS → mT → Option (mS × mT)
  | 0, _, _, _, _ => none
  | n + 1, x3, x4, σ, τ =>
    ob (P_size_4 σ τ) fun r1 σ1 τ1 => if r1 ≤ x4 then (some (σ1, τ1)) else (if (4 : Int32) ≤ x4 then (some (σ1, τ1)) else (if x4 < 0 ∨ 4 ≤ x4.toNatClampNeg then none else mw (u2 σ1 26 x4.toNatClampNeg (-1 : Int32)) fun σ5 => if ((x3 >>> (x4 &&& 31)) &&& (1 : Int32)) = 0 then (if (8 : Int32) < ((σ5 15 3) + (2 : Int32)) then (B_pose_4_6_l26 n x3 (x4 + (1 : Int32)) σ5 τ1) else (ov (B_poseBlock_4_6 x4 σ5 τ1) fun σ8 τ8 => B_pose_4_6_l26 n x3 (x4 + (1 : Int32)) σ8 τ8)) else (B_pose_4_6_l26 n x3 (x4 + (1 : Int32)) σ5 τ1)))
def B_pose_4_6 (p3 : Int32) (σ : mS) (τ : mT) : Option (mS × mT) :=
  mw (u2 σ 15 3 (0 : Int32)) fun σ1 => ob (Y_contacts σ1 τ) fun r2 σ2 τ2 => mw (u2 σ2 15 4 (jmin r2 (12 : Int32))) fun σ3 => mw (u2L τ2 15 5 (1 : Int64)) fun τ4 => B_pose_4_6_l26 mc_F p3 (0 : Int32) σ3 τ4
def R_isBalanced_4 (p2 : Int32) (σ : mS) (τ : mT) : Option (Int32 × mS × mT) :=
  ov (Y_find_4 σ τ) fun σ1 τ1 => ov (B_pose_4_6 p2 σ1 τ1) fun σ2 τ2 => ob (B_solve σ2 τ2) fun r3 σ3 τ3 => if ¬ r3 &&& 1 = r3 then none else some (r3, σ3, τ3)
def R_where_l29 : Nat → Int32 → Int32 → Int32 → Int32 → mS → mT → Option (Int32 × mS × mT)
  | 0, _, _, _, _, _, _ => none
  | n + 1, x1, x2, x3, x4, σ, τ =>
    if (9 : Int32) < x4 then (some (x3, σ, τ)) else (ov (P_copy_4_2 σ τ) fun σ2 τ2 => ov (P_add_4 x4 x1 x2 σ2 τ2) fun σ3 τ3 => ob (R_isBalanced_4 (0 : Int32) σ3 τ3) fun r4 σ4 τ4 => if r4 = 0 then (R_where_l29 n x1 x2 x3 (x4 + (1 : Int32)) σ4 τ4) else (R_where_l29 n x1 x2 (x3 ||| ((1 : Int32) <<< (x4 &&& 31))) (x4 + (1 : Int32)) σ4 τ4))
def R_where (p1 : Int32) (p2 : Int32) (σ : mS) (τ : mT) : Option (Int32 × mS × mT) :=
  ob (R_isBlock p1 p2 σ τ) fun r1 σ1 τ1 => if r1 = 0 then (some ((-1 : Int32), σ1, τ1)) else (ob (P_size_2 σ1 τ1) fun r3 σ3 τ3 => if r3 < (4 : Int32) then (R_where_l29 mc_F p1 p2 (0 : Int32) (0 : Int32) σ3 τ3) else (some ((-3 : Int32), σ3, τ3)))
def Q_where_b60 (k29 : Int32 → Int32 → Int32 → Int32 → mS → mT → Option (Int32 × mS × mT)) (x1 : Int32) (x2 : Int32) (x4 : Int32) (s0 : Int32) (s1 : Int32) (σ : mS) (τ : mT) : Option (Int32 × mS × mT) :=
  mw (u2 σ 35 0 ((σ 35 0) - (1 : Int32))) fun σ1 => k29 x1 x2 (s0 ||| s1) (x4 + (1 : Int32)) σ1 τ
def Q_where_l29 : Nat → Int32 → Int32 → Int32 → Int32 → mS → mT → Option (Int32 × mS × mT)
  | 0, _, _, _, _, _, _ => none
  | n + 1, x1, x2, x3, x4, σ, τ =>
    if (10 : Int32) ≤ x4 then (some (x3, σ, τ)) else (ov (Q_appends x4 x1 x2 σ τ) fun σ2 τ2 => ob (Q_isResting σ2 τ2) fun r3 σ3 τ3 => if r3 = 0 then (Q_where_b60 (Q_where_l29 n) x1 x2 x4 x3 (0 : Int32) σ3 τ3) else (Q_where_b60 (Q_where_l29 n) x1 x2 x4 x3 ((1 : Int32) <<< (x4 &&& 31)) σ3 τ3))
def Q_where (p1 : Int32) (p2 : Int32) (σ : mS) (τ : mT) : Option (Int32 × mS × mT) :=
  ob (Q_fits (0 : Int32) p1 p2 σ τ) fun r1 σ1 τ1 => if r1 = 0 then (some ((-1 : Int32), σ1, τ1)) else (if (σ1 35 0) = (4 : Int32) then (some ((-3 : Int32), σ1, τ1)) else (Q_where_l29 mc_F p1 p2 (0 : Int32) (0 : Int32) σ1 τ1))
def R_weights_l28 : Nat → Int32 → Int32 → Int32 → mS → mT → Option (Int32 × mS × mT)
  | 0, _, _, _, _, _ => none
  | n + 1, x1, x2, x3, σ, τ =>
    if (9 : Int32) < x3 then (some (x2, σ, τ)) else (ov (P_set_4 x1 (2 : Int32) x3 σ τ) fun σ2 τ2 => ob (R_isBalanced_4 (0 : Int32) σ2 τ2) fun r3 σ3 τ3 => if r3 = 0 then (R_weights_l28 n x1 x2 (x3 + (1 : Int32)) σ3 τ3) else (R_weights_l28 n x1 (x2 ||| ((1 : Int32) <<< (x3 &&& 31))) (x3 + (1 : Int32)) σ3 τ3))
def R_weights (p1 : Int32) (σ : mS) (τ : mT) : Option (Int32 × mS × mT) :=
  ob (P_has_2 p1 σ τ) fun r1 σ1 τ1 => if r1 = 0 then (some ((-1 : Int32), σ1, τ1)) else (ov (P_copy_4_2 σ1 τ1) fun σ3 τ3 => R_weights_l28 mc_F p1 (0 : Int32) (1 : Int32) σ3 τ3)
def Q_weights_l22 : Nat → Int32 → Int32 → Int32 → Int32 → mS → mT → Option (Int32 × mS × mT)
  | 0, _, _, _, _, _, _ => none
  | n + 1, x1, x2, x3, x4, σ, τ =>
    if (10 : Int32) ≤ x4 then (if (((5 : Int32) * x1) + (3 : Int32)) < 0 ∨ 21 ≤ (((5 : Int32) * x1) + (3 : Int32)).toNatClampNeg then none else mw (u2 σ 35 (((5 : Int32) * x1) + (3 : Int32)).toNatClampNeg x2) fun σ3 => some (x3, σ3, τ)) else (if (((5 : Int32) * x1) + (3 : Int32)) < 0 ∨ 21 ≤ (((5 : Int32) * x1) + (3 : Int32)).toNatClampNeg then none else mw (u2 σ 35 (((5 : Int32) * x1) + (3 : Int32)).toNatClampNeg x4) fun σ5 => ob (Q_isResting σ5 τ) fun r6 σ6 τ6 => if r6 = 0 then (Q_weights_l22 n x1 x2 (x3 ||| (0 : Int32)) (x4 + (1 : Int32)) σ6 τ6) else (Q_weights_l22 n x1 x2 (x3 ||| ((1 : Int32) <<< (x4 &&& 31))) (x4 + (1 : Int32)) σ6 τ6))
def Q_weights (p1 : Int32) (σ : mS) (τ : mT) : Option (Int32 × mS × mT) :=
  ob (Q_isBlock p1 σ τ) fun r1 σ1 τ1 => if r1 = 0 then (some ((-1 : Int32), σ1, τ1)) else (ob (Q_get p1 (3 : Int32) σ1 τ1) fun r3 σ3 τ3 => Q_weights_l22 mc_F p1 r3 (0 : Int32) (1 : Int32) σ3 τ3)
def P_takeOut_4 (p1 : Int32) (σ : mS) (τ : mT) : Option (mS × mT) :=
  ob (P_has_4 p1 σ τ) fun r1 σ1 τ1 => if r1 = 0 then (some (σ1, τ1)) else (ob (P_size_4 σ1 τ1) fun r3 σ3 τ3 => if ((p1 + (1 : Int32)) * (5 : Int32)) < 0 then none else if (p1 * (5 : Int32)) < 0 then none else if (((r3 - (1 : Int32)) - p1) * (5 : Int32)) < 0 then none else if 21 < ((p1 + (1 : Int32)) * (5 : Int32)).toNatClampNeg + (((r3 - (1 : Int32)) - p1) * (5 : Int32)).toNatClampNeg then none else if 21 < (p1 * (5 : Int32)).toNatClampNeg + (((r3 - (1 : Int32)) - p1) * (5 : Int32)).toNatClampNeg then none else mw (u1 σ3 5 (va_cpy (σ3 5) (σ3 5) ((p1 + (1 : Int32)) * (5 : Int32)).toNatClampNeg (p1 * (5 : Int32)).toNatClampNeg (((r3 - (1 : Int32)) - p1) * (5 : Int32)).toNatClampNeg)) fun σ9 => mw (u2 σ9 5 20 ((σ9 5 20) - (1 : Int32))) fun σ10 => some (σ10, τ3))
def R_restsWithout (p1 : Int32) (σ : mS) (τ : mT) : Option (Int32 × mS × mT) :=
  ov (P_copy_4_2 σ τ) fun σ1 τ1 => ov (P_takeOut_4 p1 σ1 τ1) fun σ2 τ2 => ob (R_isBalanced_4 (0 : Int32) σ2 τ2) fun r3 σ3 τ3 => if ¬ r3 &&& 1 = r3 then none else some (r3, σ3, τ3)
def R_key_l17 : Nat → Int32 → mS → mT → Option (Int32 × mS × mT)
  | 0, _, _, _ => none
  | n + 1, x1, σ, τ =>
    ob (P_size_2 σ τ) fun r1 σ1 τ1 => if r1 ≤ x1 then (some ((-9 : Int32), σ1, τ1)) else (ov (Y_find_2 σ1 τ1) fun σ3 τ3 => ob (Y_over x1 σ3 τ3) fun r4 σ4 τ4 => if r4 = 0 then (ob (R_restsWithout x1 σ4 τ4) fun r6 σ6 τ6 => if r6 = 0 then (some (x1, σ6, τ6)) else (R_key_l17 n (x1 + (1 : Int32)) σ6 τ6)) else (R_key_l17 n (x1 + (1 : Int32)) σ4 τ4))
def R_key (σ : mS) (τ : mT) : Option (Int32 × mS × mT) :=
  ob (R_isBalanced_2 (0 : Int32) σ τ) fun r1 σ1 τ1 => if r1 = 0 then (some ((-9 : Int32), σ1, τ1)) else (R_key_l17 mc_F (0 : Int32) σ1 τ1)
def Q_restsWithout (p1 : Int32) (σ : mS) (τ : mT) : Option (Int32 × mS × mT) :=
  ov (Q_lays_48 (0 : Int32) σ τ) fun σ1 τ1 => ov (Q_removes p1 σ1 τ1) fun σ2 τ2 => ob (Q_isResting σ2 τ2) fun r3 σ3 τ3 => ov (Q_takes_48 (0 : Int32) σ3 τ3) fun σ4 τ4 => if ¬ r3 &&& 1 = r3 then none else some (r3, σ4, τ4)
def Q_key_l12 : Nat → Int32 → mS → mT → Option (Int32 × mS × mT)
  | 0, _, _, _ => none
  | n + 1, x1, σ, τ =>
    ob (Q_many σ τ) fun r1 σ1 τ1 => if r1 ≤ x1 then (some ((-9 : Int32), σ1, τ1)) else (ov (Q_layAll σ1 τ1) fun σ3 τ3 => ob (Q_above x1 σ3 τ3) fun r4 σ4 τ4 => if r4 = 0 then (ob (Q_restsWithout x1 σ4 τ4) fun r6 σ6 τ6 => if r6 = 0 then (some (x1, σ6, τ6)) else (Q_key_l12 n (x1 + (1 : Int32)) σ6 τ6)) else (Q_key_l12 n (x1 + (1 : Int32)) σ4 τ4))
def Q_key (σ : mS) (τ : mT) : Option (Int32 × mS × mT) :=
  ob (Q_isResting σ τ) fun r1 σ1 τ1 => if r1 = 0 then (some ((-9 : Int32), σ1, τ1)) else (Q_key_l12 mc_F (0 : Int32) σ1 τ1)
def Z_bitCount (p0 : Int32) (σ : mS) (τ : mT) : Option (Int32 × mS × mT) :=
  some ((((((((p0 - (((p0.toUInt32 >>> ((1 : Int32).toUInt32 &&& Int32.toUInt32 31)).toInt32) &&& (1431655765 : Int32))) &&& (858993459 : Int32)) + ((((p0 - (((p0.toUInt32 >>> ((1 : Int32).toUInt32 &&& Int32.toUInt32 31)).toInt32) &&& (1431655765 : Int32))).toUInt32 >>> ((2 : Int32).toUInt32 &&& Int32.toUInt32 31)).toInt32) &&& (858993459 : Int32))) + (((((p0 - (((p0.toUInt32 >>> ((1 : Int32).toUInt32 &&& Int32.toUInt32 31)).toInt32) &&& (1431655765 : Int32))) &&& (858993459 : Int32)) + ((((p0 - (((p0.toUInt32 >>> ((1 : Int32).toUInt32 &&& Int32.toUInt32 31)).toInt32) &&& (1431655765 : Int32))).toUInt32 >>> ((2 : Int32).toUInt32 &&& Int32.toUInt32 31)).toInt32) &&& (858993459 : Int32))).toUInt32 >>> ((4 : Int32).toUInt32 &&& Int32.toUInt32 31)).toInt32)) &&& (252645135 : Int32)) + (((((((p0 - (((p0.toUInt32 >>> ((1 : Int32).toUInt32 &&& Int32.toUInt32 31)).toInt32) &&& (1431655765 : Int32))) &&& (858993459 : Int32)) + ((((p0 - (((p0.toUInt32 >>> ((1 : Int32).toUInt32 &&& Int32.toUInt32 31)).toInt32) &&& (1431655765 : Int32))).toUInt32 >>> ((2 : Int32).toUInt32 &&& Int32.toUInt32 31)).toInt32) &&& (858993459 : Int32))) + (((((p0 - (((p0.toUInt32 >>> ((1 : Int32).toUInt32 &&& Int32.toUInt32 31)).toInt32) &&& (1431655765 : Int32))) &&& (858993459 : Int32)) + ((((p0 - (((p0.toUInt32 >>> ((1 : Int32).toUInt32 &&& Int32.toUInt32 31)).toInt32) &&& (1431655765 : Int32))).toUInt32 >>> ((2 : Int32).toUInt32 &&& Int32.toUInt32 31)).toInt32) &&& (858993459 : Int32))).toUInt32 >>> ((4 : Int32).toUInt32 &&& Int32.toUInt32 31)).toInt32)) &&& (252645135 : Int32)).toUInt32 >>> ((8 : Int32).toUInt32 &&& Int32.toUInt32 31)).toInt32)) + ((((((((p0 - (((p0.toUInt32 >>> ((1 : Int32).toUInt32 &&& Int32.toUInt32 31)).toInt32) &&& (1431655765 : Int32))) &&& (858993459 : Int32)) + ((((p0 - (((p0.toUInt32 >>> ((1 : Int32).toUInt32 &&& Int32.toUInt32 31)).toInt32) &&& (1431655765 : Int32))).toUInt32 >>> ((2 : Int32).toUInt32 &&& Int32.toUInt32 31)).toInt32) &&& (858993459 : Int32))) + (((((p0 - (((p0.toUInt32 >>> ((1 : Int32).toUInt32 &&& Int32.toUInt32 31)).toInt32) &&& (1431655765 : Int32))) &&& (858993459 : Int32)) + ((((p0 - (((p0.toUInt32 >>> ((1 : Int32).toUInt32 &&& Int32.toUInt32 31)).toInt32) &&& (1431655765 : Int32))).toUInt32 >>> ((2 : Int32).toUInt32 &&& Int32.toUInt32 31)).toInt32) &&& (858993459 : Int32))).toUInt32 >>> ((4 : Int32).toUInt32 &&& Int32.toUInt32 31)).toInt32)) &&& (252645135 : Int32)) + (((((((p0 - (((p0.toUInt32 >>> ((1 : Int32).toUInt32 &&& Int32.toUInt32 31)).toInt32) &&& (1431655765 : Int32))) &&& (858993459 : Int32)) + ((((p0 - (((p0.toUInt32 >>> ((1 : Int32).toUInt32 &&& Int32.toUInt32 31)).toInt32) &&& (1431655765 : Int32))).toUInt32 >>> ((2 : Int32).toUInt32 &&& Int32.toUInt32 31)).toInt32) &&& (858993459 : Int32))) + (((((p0 - (((p0.toUInt32 >>> ((1 : Int32).toUInt32 &&& Int32.toUInt32 31)).toInt32) &&& (1431655765 : Int32))) &&& (858993459 : Int32)) + ((((p0 - (((p0.toUInt32 >>> ((1 : Int32).toUInt32 &&& Int32.toUInt32 31)).toInt32) &&& (1431655765 : Int32))).toUInt32 >>> ((2 : Int32).toUInt32 &&& Int32.toUInt32 31)).toInt32) &&& (858993459 : Int32))).toUInt32 >>> ((4 : Int32).toUInt32 &&& Int32.toUInt32 31)).toInt32)) &&& (252645135 : Int32)).toUInt32 >>> ((8 : Int32).toUInt32 &&& Int32.toUInt32 31)).toInt32)).toUInt32 >>> ((16 : Int32).toUInt32 &&& Int32.toUInt32 31)).toInt32)) &&& (63 : Int32), σ, τ)
def R_hold_l17 (k10 : Int32 → Int32 → mS → mT → Option (Int32 × mS × mT)) : Nat → Int32 → Int32 → Int32 → mS → mT → Option (Int32 × mS × mT)
  | 0, _, _, _, _, _ => none
  | n + 1, x1, x2, x3, σ, τ =>
    if ((1 : Int32) <<< (x1 &&& 31)) ≤ x3 then (k10 x1 (x2 + (1 : Int32)) σ τ) else (ob (Z_bitCount x3 σ τ) fun r2 σ2 τ2 => if r2 = x2 then (ob (R_isBalanced_2 x3 σ2 τ2) fun r4 σ4 τ4 => if r4 = 0 then (R_hold_l17 k10 n x1 x2 (x3 + (1 : Int32)) σ4 τ4) else (some (x3, σ4, τ4))) else (R_hold_l17 k10 n x1 x2 (x3 + (1 : Int32)) σ2 τ2))
def R_hold_l10 : Nat → Int32 → Int32 → mS → mT → Option (Int32 × mS × mT)
  | 0, _, _, _, _ => none
  | n + 1, x1, x2, σ, τ =>
    if x1 ≤ x2 then (some (((1 : Int32) <<< (x1 &&& 31)) - (1 : Int32), σ, τ)) else (R_hold_l17 (R_hold_l10 n) mc_F x1 x2 (0 : Int32) σ τ)
def R_hold (σ : mS) (τ : mT) : Option (Int32 × mS × mT) :=
  ob (P_size_2 σ τ) fun r1 σ1 τ1 => R_hold_l10 mc_F r1 (0 : Int32) σ1 τ1
def Q_hold_l7 : Nat → Int32 → Int32 → mS → mT → Option (Int32 × mS × mT)
  | 0, _, _, _, _ => none
  | n + 1, x1, x2, σ, τ =>
    ob (Q_all σ τ) fun r1 σ1 τ1 => if r1 < x2 then (some (x1, σ1, τ1)) else (ob (Q_ones x2 σ1 τ1) fun r3 σ3 τ3 => ob (Q_ones x1 σ3 τ3) fun r4 σ4 τ4 => if r4 ≤ r3 then (Q_hold_l7 n x1 (x2 + (1 : Int32)) σ4 τ4) else (ob (Q_all σ4 τ4) fun r6 σ6 τ6 => ob (Q_canBalance (r6 &&& (x2 ^^^ (-1 : Int32))) σ6 τ6) fun r7 σ7 τ7 => if r7 = 0 then (Q_hold_l7 n x1 (x2 + (1 : Int32)) σ7 τ7) else (Q_hold_l7 n x2 (x2 + (1 : Int32)) σ7 τ7)))
def Q_hold (σ : mS) (τ : mT) : Option (Int32 × mS × mT) :=
  ob (Q_all σ τ) fun r1 σ1 τ1 => Q_hold_l7 mc_F r1 (0 : Int32) σ1 τ1
def S_write_31_2 (p1 : Int32) (σ : mS) (τ : mT) : Option (mS × mT) :=
  ob (R_within p1 (0 : Int32) ((2 : Int32) - (1 : Int32)) σ τ) fun r1 σ1 τ1 => if r1 = 0 then (some (σ1, τ1)) else (if (p1 * (21 : Int32)) < 0 then none else if 42 < (p1 * (21 : Int32)).toNatClampNeg + 21 then none else mw (u1 σ1 32 (va_cpy (σ1 3) (σ1 32) 0 (p1 * (21 : Int32)).toNatClampNeg 21)) fun σ5 => some (σ5, τ1))
def R_keep (p1 : Int32) (σ : mS) (τ : mT) : Option (Int32 × mS × mT) :=
  ob (R_within p1 (0 : Int32) (1 : Int32) σ τ) fun r1 σ1 τ1 => if r1 = 0 then (some ((-1 : Int32), σ1, τ1)) else (ov (S_write_31_2 p1 σ1 τ1) fun σ3 τ3 => if p1 < 0 ∨ 2 ≤ p1.toNatClampNeg then none else mw (u2 σ3 33 p1.toNatClampNeg (vp_nar .boolean (1 : Int32))) fun σ5 => ob (P_size_2 σ5 τ3) fun r6 σ6 τ6 => some (r6, σ6, τ6))
def Q_lays_37_l2 : Nat → Int32 → Int32 → mS → mT → Option (mS × mT)
  | 0, _, _, _, _ => none
  | n + 1, x2, x3, σ, τ =>
    if (21 : Int32) ≤ x3 then (some (σ, τ)) else (if x3 < 0 ∨ 21 ≤ x3.toNatClampNeg then none else if (x2 + x3) < 0 ∨ 42 ≤ (x2 + x3).toNatClampNeg then none else mw (u2 σ 37 (x2 + x3).toNatClampNeg (σ 35 x3.toNatClampNeg)) fun σ4 => Q_lays_37_l2 n x2 (x3 + (1 : Int32)) σ4 τ)
def Q_lays_37 (p2 : Int32) (σ : mS) (τ : mT) : Option (mS × mT) :=
  Q_lays_37_l2 mc_F p2 (0 : Int32) σ τ
def Q_keep (p1 : Int32) (σ : mS) (τ : mT) : Option (Int32 × mS × mT) :=
  ob (Q_within p1 (0 : Int32) (1 : Int32) σ τ) fun r1 σ1 τ1 => if r1 = 0 then (some ((-1 : Int32), σ1, τ1)) else (ov (Q_lays_37 ((21 : Int32) * p1) σ1 τ1) fun σ3 τ3 => if p1 < 0 ∨ 2 ≤ p1.toNatClampNeg then none else mw (u2 σ3 38 p1.toNatClampNeg (vp_nar .boolean (1 : Int32))) fun σ5 => some (σ5 35 0, σ5, τ3))
def S_read_31_2 (p1 : Int32) (σ : mS) (τ : mT) : Option (mS × mT) :=
  ob (R_within p1 (0 : Int32) ((2 : Int32) - (1 : Int32)) σ τ) fun r1 σ1 τ1 => if r1 = 0 then (some (σ1, τ1)) else (if (p1 * (21 : Int32)) < 0 then none else if 42 < (p1 * (21 : Int32)).toNatClampNeg + 21 then none else mw (u1 σ1 3 (va_cpy (σ1 32) (σ1 3) (p1 * (21 : Int32)).toNatClampNeg 0 21)) fun σ5 => some (σ5, τ1))
def R_back (p1 : Int32) (σ : mS) (τ : mT) : Option (Int32 × mS × mT) :=
  ob (R_within p1 (0 : Int32) (1 : Int32) σ τ) fun r1 σ1 τ1 => if r1 = 0 then (some ((-1 : Int32), σ1, τ1)) else (if p1 < 0 ∨ 2 ≤ p1.toNatClampNeg then none else if (σ1 33 p1.toNatClampNeg) = 0 then (some ((-2 : Int32), σ1, τ1)) else (ov (S_read_31_2 p1 σ1 τ1) fun σ5 τ5 => mw (u2 σ5 1 8 (0 : Int32)) fun σ6 => ob (P_size_2 σ6 τ5) fun r7 σ7 τ7 => some (r7, σ7, τ7)))
def Q_takes_37_l2 : Nat → Int32 → Int32 → mS → mT → Option (mS × mT)
  | 0, _, _, _, _ => none
  | n + 1, x2, x3, σ, τ =>
    if (21 : Int32) ≤ x3 then (some (σ, τ)) else (if (x2 + x3) < 0 ∨ 42 ≤ (x2 + x3).toNatClampNeg then none else if x3 < 0 ∨ 21 ≤ x3.toNatClampNeg then none else mw (u2 σ 35 x3.toNatClampNeg (σ 37 (x2 + x3).toNatClampNeg)) fun σ4 => Q_takes_37_l2 n x2 (x3 + (1 : Int32)) σ4 τ)
def Q_takes_37 (p2 : Int32) (σ : mS) (τ : mT) : Option (mS × mT) :=
  Q_takes_37_l2 mc_F p2 (0 : Int32) σ τ
def Q_back (p1 : Int32) (σ : mS) (τ : mT) : Option (Int32 × mS × mT) :=
  ob (Q_within p1 (0 : Int32) (1 : Int32) σ τ) fun r1 σ1 τ1 => if r1 = 0 then (some ((-1 : Int32), σ1, τ1)) else (if p1 < 0 ∨ 2 ≤ p1.toNatClampNeg then none else if (σ1 38 p1.toNatClampNeg) = 0 then (some ((-2 : Int32), σ1, τ1)) else (ov (Q_takes_37 ((21 : Int32) * p1) σ1 τ1) fun σ5 τ5 => mw (u2 σ5 34 2 (0 : Int32)) fun σ6 => some (σ6 35 0, σ6, τ5)))
def P_heaviness_2_l4 : Nat → Int32 → Int32 → mS → mT → Option (Int32 × mS × mT)
  | 0, _, _, _, _ => none
  | n + 1, x1, x2, σ, τ =>
    ob (P_size_2 σ τ) fun r1 σ1 τ1 => if r1 ≤ x2 then (some (x1, σ1, τ1)) else (ob (P_get_2 x2 (2 : Int32) σ1 τ1) fun r3 σ3 τ3 => ob (P_get_2 x2 (3 : Int32) σ3 τ3) fun r4 σ4 τ4 => P_heaviness_2_l4 n (x1 + (r3 + r4)) (x2 + (1 : Int32)) σ4 τ4)
def P_heaviness_2 (σ : mS) (τ : mT) : Option (Int32 × mS × mT) :=
  P_heaviness_2_l4 mc_F (0 : Int32) (0 : Int32) σ τ
def Y_greatestLevel_l5 : Nat → Int32 → Int32 → mS → mT → Option (Int32 × mS × mT)
  | 0, _, _, _, _ => none
  | n + 1, x1, x2, σ, τ =>
    if (σ 6 8) ≤ x2 then (some (x1, σ, τ)) else (if x2 < 0 ∨ 4 ≤ x2.toNatClampNeg then none else Y_greatestLevel_l5 n (jmax x1 (σ 9 x2.toNatClampNeg)) (x2 + (1 : Int32)) σ τ)
def Y_greatestLevel (σ : mS) (τ : mT) : Option (Int32 × mS × mT) :=
  Y_greatestLevel_l5 mc_F (-9 : Int32) (0 : Int32) σ τ
def R_count (p1 : Int32) (σ : mS) (τ : mT) : Option (Int32 × mS × mT) :=
  if p1 = 0 then (ob (P_size_2 σ τ) fun r2 σ2 τ2 => some (r2, σ2, τ2)) else if p1 = 1 then (ov (Y_find_2 σ τ) fun σ4 τ4 => ob (Y_contacts σ4 τ4) fun r5 σ5 τ5 => some (r5, σ5, τ5)) else if p1 = 2 then (ob (P_heaviness_2 σ τ) fun r7 σ7 τ7 => some (r7, σ7, τ7)) else if p1 = 3 then (ov (Y_find_2 σ τ) fun σ9 τ9 => ob (Y_greatestLevel σ9 τ9) fun r10 σ10 τ10 => some (r10, σ10, τ10)) else if p1 = 4 then (ob (T_length σ τ) fun r12 σ12 τ12 => some (r12, σ12, τ12)) else if p1 = 5 then (some (σ 1 8, σ, τ)) else (some ((-1 : Int32), σ, τ))
def Q_contactsNow (σ : mS) (τ : mT) : Option (Int32 × mS × mT) :=
  ov (Q_layAll σ τ) fun σ1 τ1 => some (σ1 34 9, σ1, τ1)
def Q_heavy_l4 : Nat → Int32 → Int32 → mS → mT → Option (Int32 × mS × mT)
  | 0, _, _, _, _ => none
  | n + 1, x1, x2, σ, τ =>
    ob (Q_many σ τ) fun r1 σ1 τ1 => if r1 ≤ x2 then (some (x1, σ1, τ1)) else (ob (Q_get x2 (3 : Int32) σ1 τ1) fun r3 σ3 τ3 => ob (Q_get x2 (4 : Int32) σ3 τ3) fun r4 σ4 τ4 => Q_heavy_l4 n (x1 + (r3 + r4)) (x2 + (1 : Int32)) σ4 τ4)
def Q_heavy (σ : mS) (τ : mT) : Option (Int32 × mS × mT) :=
  Q_heavy_l4 mc_F (0 : Int32) (0 : Int32) σ τ
def Q_highest_l9 : Nat → Int32 → Int32 → mS → mT → Option (Int32 × mS × mT)
  | 0, _, _, _, _ => none
  | n + 1, x1, x2, σ, τ =>
    ob (Q_many σ τ) fun r1 σ1 τ1 => if r1 ≤ x2 then (some (x1, σ1, τ1)) else (if x2 < 0 ∨ 4 ≤ x2.toNatClampNeg then none else if (σ1 40 x2.toNatClampNeg) ≤ x1 then (Q_highest_l9 n x1 (x2 + (1 : Int32)) σ1 τ1) else (Q_highest_l9 n (σ1 40 x2.toNatClampNeg) (x2 + (1 : Int32)) σ1 τ1))
def Q_highest (σ : mS) (τ : mT) : Option (Int32 × mS × mT) :=
  ov (Q_layAll σ τ) fun σ1 τ1 => Q_highest_l9 mc_F (-9 : Int32) (0 : Int32) σ1 τ1
def Q_count (p1 : Int32) (σ : mS) (τ : mT) : Option (Int32 × mS × mT) :=
  if p1 = 0 then (some (σ 35 0, σ, τ)) else if p1 = 1 then (ob (Q_contactsNow σ τ) fun r3 σ3 τ3 => some (r3, σ3, τ3)) else if p1 = 2 then (ob (Q_heavy σ τ) fun r5 σ5 τ5 => some (r5, σ5, τ5)) else if p1 = 3 then (ob (Q_highest σ τ) fun r7 σ7 τ7 => some (r7, σ7, τ7)) else if p1 = 4 then (some (σ 34 6, σ, τ)) else if p1 = 5 then (some (σ 34 2, σ, τ)) else (some ((-1 : Int32), σ, τ))
end
