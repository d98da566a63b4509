-- ===== PART A: goes FIRST, ahead of the names: the tables' words, and 'selects' of the private methods out of them =====
/-- a private method of a class that the tables say can be made, by its rows of tables_1 -/
def lw_okq (q : MethodName × Nat) : Prop := (q.1.cls ≠ "java/lang/invoke/MethodHandle" ∧ q.1.cls ≠ "java/lang/invoke/VarHandle") ∧ Cond.instantiable q.1.cls q.2 ∈ tables_1 ∧ Cond.privateMethod q.1 ∈ tables_1 ∧ Cond.instanceMethod q.1 ∈ tables_1
theorem lw_p0 : lw_okq (⟨"FoldedGroups$Graph", "reset", "()V"⟩, 9) := ⟨⟨by decide +kernel, by decide +kernel⟩, List.mem_of_getElem? (i := 42) (by decide +kernel), List.mem_of_getElem? (i := 48) (by decide +kernel), List.mem_of_getElem? (i := 49) (by decide +kernel)⟩
theorem lw_p1 : lw_okq (⟨"FoldedGroups", "isLetter", "(I)Z"⟩, 4) := ⟨⟨by decide +kernel, by decide +kernel⟩, List.mem_of_getElem? (i := 9) (by decide +kernel), List.mem_of_getElem? (i := 149) (by decide +kernel), List.mem_of_getElem? (i := 150) (by decide +kernel)⟩
theorem lw_p2 : lw_okq (⟨"FoldedGroups$Word", "append", "(I)I"⟩, 2) := ⟨⟨by decide +kernel, by decide +kernel⟩, List.mem_of_getElem? (i := 23) (by decide +kernel), List.mem_of_getElem? (i := 153) (by decide +kernel), List.mem_of_getElem? (i := 154) (by decide +kernel)⟩
theorem lw_p3 : lw_okq (⟨"FoldedGroups$Word", "turnRound", "()V"⟩, 2) := ⟨⟨by decide +kernel, by decide +kernel⟩, List.mem_of_getElem? (i := 23) (by decide +kernel), List.mem_of_getElem? (i := 165) (by decide +kernel), List.mem_of_getElem? (i := 166) (by decide +kernel)⟩
theorem lw_p4 : lw_okq (⟨"FoldedGroups", "isSubgroup", "(I)Z"⟩, 4) := ⟨⟨by decide +kernel, by decide +kernel⟩, List.mem_of_getElem? (i := 9) (by decide +kernel), List.mem_of_getElem? (i := 181) (by decide +kernel), List.mem_of_getElem? (i := 182) (by decide +kernel)⟩
theorem lw_p5 : lw_okq (⟨"FoldedGroups$Graph", "slotOfElement", "(I)I"⟩, 9) := ⟨⟨by decide +kernel, by decide +kernel⟩, List.mem_of_getElem? (i := 42) (by decide +kernel), List.mem_of_getElem? (i := 185) (by decide +kernel), List.mem_of_getElem? (i := 186) (by decide +kernel)⟩
theorem lw_p6 : lw_okq (⟨"FoldedGroups$Graph", "elementSize", "(I)I"⟩, 9) := ⟨⟨by decide +kernel, by decide +kernel⟩, List.mem_of_getElem? (i := 42) (by decide +kernel), List.mem_of_getElem? (i := 189) (by decide +kernel), List.mem_of_getElem? (i := 190) (by decide +kernel)⟩
theorem lw_p7 : lw_okq (⟨"FoldedGroups$Graph", "elementLetter", "(II)I"⟩, 9) := ⟨⟨by decide +kernel, by decide +kernel⟩, List.mem_of_getElem? (i := 42) (by decide +kernel), List.mem_of_getElem? (i := 193) (by decide +kernel), List.mem_of_getElem? (i := 194) (by decide +kernel)⟩
theorem lw_p8 : lw_okq (⟨"FoldedGroups$Graph", "climb", "(II)I"⟩, 9) := ⟨⟨by decide +kernel, by decide +kernel⟩, List.mem_of_getElem? (i := 42) (by decide +kernel), List.mem_of_getElem? (i := 197) (by decide +kernel), List.mem_of_getElem? (i := 198) (by decide +kernel)⟩
theorem lw_p9 : lw_okq (⟨"FoldedGroups$Draft", "begin", "()V"⟩, 12) := ⟨⟨by decide +kernel, by decide +kernel⟩, List.mem_of_getElem? (i := 89) (by decide +kernel), List.mem_of_getElem? (i := 208) (by decide +kernel), List.mem_of_getElem? (i := 209) (by decide +kernel)⟩
theorem lw_p10 : lw_okq (⟨"FoldedGroups$Draft", "addCopy", "(LFoldedGroups$Graph;)V"⟩, 12) := ⟨⟨by decide +kernel, by decide +kernel⟩, List.mem_of_getElem? (i := 89) (by decide +kernel), List.mem_of_getElem? (i := 213) (by decide +kernel), List.mem_of_getElem? (i := 214) (by decide +kernel)⟩
theorem lw_p11 : lw_okq (⟨"FoldedGroups$Graph", "way", "(II)I"⟩, 9) := ⟨⟨by decide +kernel, by decide +kernel⟩, List.mem_of_getElem? (i := 42) (by decide +kernel), List.mem_of_getElem? (i := 217) (by decide +kernel), List.mem_of_getElem? (i := 218) (by decide +kernel)⟩
theorem lw_p12 : lw_okq (⟨"FoldedGroups$Draft", "addEdge", "(III)V"⟩, 12) := ⟨⟨by decide +kernel, by decide +kernel⟩, List.mem_of_getElem? (i := 89) (by decide +kernel), List.mem_of_getElem? (i := 221) (by decide +kernel), List.mem_of_getElem? (i := 222) (by decide +kernel)⟩
theorem lw_p13 : lw_okq (⟨"FoldedGroups$Draft", "addRing", "(LFoldedGroups$Word;)V"⟩, 12) := ⟨⟨by decide +kernel, by decide +kernel⟩, List.mem_of_getElem? (i := 89) (by decide +kernel), List.mem_of_getElem? (i := 225) (by decide +kernel), List.mem_of_getElem? (i := 226) (by decide +kernel)⟩
theorem lw_p14 : lw_okq (⟨"FoldedGroups$Draft", "addRow", "(LFoldedGroups$Word;I)I"⟩, 12) := ⟨⟨by decide +kernel, by decide +kernel⟩, List.mem_of_getElem? (i := 89) (by decide +kernel), List.mem_of_getElem? (i := 229) (by decide +kernel), List.mem_of_getElem? (i := 230) (by decide +kernel)⟩
theorem lw_p15 : lw_okq (⟨"FoldedGroups$Draft", "fold", "()V"⟩, 12) := ⟨⟨by decide +kernel, by decide +kernel⟩, List.mem_of_getElem? (i := 89) (by decide +kernel), List.mem_of_getElem? (i := 236) (by decide +kernel), List.mem_of_getElem? (i := 237) (by decide +kernel)⟩
def lw_privs_1 : List (MethodName × Nat) := [(⟨"FoldedGroups$Graph", "reset", "()V"⟩, 9), (⟨"FoldedGroups", "isLetter", "(I)Z"⟩, 4), (⟨"FoldedGroups$Word", "append", "(I)I"⟩, 2), (⟨"FoldedGroups$Word", "turnRound", "()V"⟩, 2), (⟨"FoldedGroups", "isSubgroup", "(I)Z"⟩, 4), (⟨"FoldedGroups$Graph", "slotOfElement", "(I)I"⟩, 9), (⟨"FoldedGroups$Graph", "elementSize", "(I)I"⟩, 9), (⟨"FoldedGroups$Graph", "elementLetter", "(II)I"⟩, 9), (⟨"FoldedGroups$Graph", "climb", "(II)I"⟩, 9), (⟨"FoldedGroups$Draft", "begin", "()V"⟩, 12), (⟨"FoldedGroups$Draft", "addCopy", "(LFoldedGroups$Graph;)V"⟩, 12), (⟨"FoldedGroups$Graph", "way", "(II)I"⟩, 9), (⟨"FoldedGroups$Draft", "addEdge", "(III)V"⟩, 12), (⟨"FoldedGroups$Draft", "addRing", "(LFoldedGroups$Word;)V"⟩, 12), (⟨"FoldedGroups$Draft", "addRow", "(LFoldedGroups$Word;I)I"⟩, 12), (⟨"FoldedGroups$Draft", "fold", "()V"⟩, 12)]
theorem lw_r1 : ∀ q ∈ lw_privs_1, lw_okq q := List.forall_mem_cons.mpr ⟨lw_p0, List.forall_mem_cons.mpr ⟨lw_p1, List.forall_mem_cons.mpr ⟨lw_p2, List.forall_mem_cons.mpr ⟨lw_p3, List.forall_mem_cons.mpr ⟨lw_p4, List.forall_mem_cons.mpr ⟨lw_p5, List.forall_mem_cons.mpr ⟨lw_p6, List.forall_mem_cons.mpr ⟨lw_p7, List.forall_mem_cons.mpr ⟨lw_p8, List.forall_mem_cons.mpr ⟨lw_p9, List.forall_mem_cons.mpr ⟨lw_p10, List.forall_mem_cons.mpr ⟨lw_p11, List.forall_mem_cons.mpr ⟨lw_p12, List.forall_mem_cons.mpr ⟨lw_p13, List.forall_mem_cons.mpr ⟨lw_p14, List.forall_mem_cons.mpr ⟨lw_p15, fun _ h => absurd h List.not_mem_nil⟩⟩⟩⟩⟩⟩⟩⟩⟩⟩⟩⟩⟩⟩⟩⟩
theorem lw_p16 : lw_okq (⟨"FoldedGroups$Draft", "layWay", "(III)Z"⟩, 12) := ⟨⟨by decide +kernel, by decide +kernel⟩, List.mem_of_getElem? (i := 89) (by decide +kernel), List.mem_of_getElem? (i := 240) (by decide +kernel), List.mem_of_getElem? (i := 241) (by decide +kernel)⟩
theorem lw_p17 : lw_okq (⟨"FoldedGroups$Draft", "unite", "(II)V"⟩, 12) := ⟨⟨by decide +kernel, by decide +kernel⟩, List.mem_of_getElem? (i := 89) (by decide +kernel), List.mem_of_getElem? (i := 244) (by decide +kernel), List.mem_of_getElem? (i := 245) (by decide +kernel)⟩
theorem lw_p18 : lw_okq (⟨"FoldedGroups$Draft", "numberInto", "(LFoldedGroups$Graph;)I"⟩, 12) := ⟨⟨by decide +kernel, by decide +kernel⟩, List.mem_of_getElem? (i := 89) (by decide +kernel), List.mem_of_getElem? (i := 248) (by decide +kernel), List.mem_of_getElem? (i := 249) (by decide +kernel)⟩
theorem lw_p19 : lw_okq (⟨"FoldedGroups$Graph", "growTree", "(II)V"⟩, 9) := ⟨⟨by decide +kernel, by decide +kernel⟩, List.mem_of_getElem? (i := 42) (by decide +kernel), List.mem_of_getElem? (i := 253) (by decide +kernel), List.mem_of_getElem? (i := 254) (by decide +kernel)⟩
theorem lw_p20 : lw_okq (⟨"FoldedGroups$Graph", "findBasis", "()V"⟩, 9) := ⟨⟨by decide +kernel, by decide +kernel⟩, List.mem_of_getElem? (i := 42) (by decide +kernel), List.mem_of_getElem? (i := 257) (by decide +kernel), List.mem_of_getElem? (i := 258) (by decide +kernel)⟩
theorem lw_p21 : lw_okq (⟨"FoldedGroups$Draft", "moveBaseAlong", "(LFoldedGroups$Word;)V"⟩, 12) := ⟨⟨by decide +kernel, by decide +kernel⟩, List.mem_of_getElem? (i := 89) (by decide +kernel), List.mem_of_getElem? (i := 271) (by decide +kernel), List.mem_of_getElem? (i := 272) (by decide +kernel)⟩
theorem lw_p22 : lw_okq (⟨"FoldedGroups$Draft", "trim", "()V"⟩, 12) := ⟨⟨by decide +kernel, by decide +kernel⟩, List.mem_of_getElem? (i := 89) (by decide +kernel), List.mem_of_getElem? (i := 275) (by decide +kernel), List.mem_of_getElem? (i := 276) (by decide +kernel)⟩
theorem lw_p23 : lw_okq (⟨"FoldedGroups$Draft", "trimFrom", "(I)V"⟩, 12) := ⟨⟨by decide +kernel, by decide +kernel⟩, List.mem_of_getElem? (i := 89) (by decide +kernel), List.mem_of_getElem? (i := 279) (by decide +kernel), List.mem_of_getElem? (i := 280) (by decide +kernel)⟩
theorem lw_p24 : lw_okq (⟨"FoldedGroups$Draft", "onlyWay", "(I)I"⟩, 12) := ⟨⟨by decide +kernel, by decide +kernel⟩, List.mem_of_getElem? (i := 89) (by decide +kernel), List.mem_of_getElem? (i := 283) (by decide +kernel), List.mem_of_getElem? (i := 284) (by decide +kernel)⟩
theorem lw_p25 : lw_okq (⟨"FoldedGroups$Draft", "addPairs", "(LFoldedGroups$Graph;LFoldedGroups$Graph;)Z"⟩, 12) := ⟨⟨by decide +kernel, by decide +kernel⟩, List.mem_of_getElem? (i := 89) (by decide +kernel), List.mem_of_getElem? (i := 291) (by decide +kernel), List.mem_of_getElem? (i := 292) (by decide +kernel)⟩
theorem lw_p26 : lw_okq (⟨"FoldedGroups$Draft", "findOrAddPair", "(II)I"⟩, 12) := ⟨⟨by decide +kernel, by decide +kernel⟩, List.mem_of_getElem? (i := 89) (by decide +kernel), List.mem_of_getElem? (i := 295) (by decide +kernel), List.mem_of_getElem? (i := 296) (by decide +kernel)⟩
theorem lw_p27 : lw_okq (⟨"FoldedGroups", "isComplete", "(LFoldedGroups$Graph;)Z"⟩, 4) := ⟨⟨by decide +kernel, by decide +kernel⟩, List.mem_of_getElem? (i := 9) (by decide +kernel), List.mem_of_getElem? (i := 332) (by decide +kernel), List.mem_of_getElem? (i := 333) (by decide +kernel)⟩
theorem lw_p28 : lw_okq (⟨"FoldedGroups$Graph", "liesUpon", "(LFoldedGroups$Graph;I)Z"⟩, 9) := ⟨⟨by decide +kernel, by decide +kernel⟩, List.mem_of_getElem? (i := 42) (by decide +kernel), List.mem_of_getElem? (i := 340) (by decide +kernel), List.mem_of_getElem? (i := 341) (by decide +kernel)⟩
theorem lw_p29 : lw_okq (⟨"FoldedGroupsModel", "isLetter", "(I)Z"⟩, 25) := ⟨⟨by decide +kernel, by decide +kernel⟩, List.mem_of_getElem? (i := 351) (by decide +kernel), List.mem_of_getElem? (i := 437) (by decide +kernel), List.mem_of_getElem? (i := 438) (by decide +kernel)⟩
theorem lw_p30 : lw_okq (⟨"FoldedGroupsModel", "begin", "(I)V"⟩, 25) := ⟨⟨by decide +kernel, by decide +kernel⟩, List.mem_of_getElem? (i := 351) (by decide +kernel), List.mem_of_getElem? (i := 460) (by decide +kernel), List.mem_of_getElem? (i := 461) (by decide +kernel)⟩
theorem lw_p31 : lw_okq (⟨"FoldedGroupsModel", "addCopy", "(II)V"⟩, 25) := ⟨⟨by decide +kernel, by decide +kernel⟩, List.mem_of_getElem? (i := 351) (by decide +kernel), List.mem_of_getElem? (i := 464) (by decide +kernel), List.mem_of_getElem? (i := 465) (by decide +kernel)⟩
def lw_privs_2 : List (MethodName × Nat) := [(⟨"FoldedGroups$Draft", "layWay", "(III)Z"⟩, 12), (⟨"FoldedGroups$Draft", "unite", "(II)V"⟩, 12), (⟨"FoldedGroups$Draft", "numberInto", "(LFoldedGroups$Graph;)I"⟩, 12), (⟨"FoldedGroups$Graph", "growTree", "(II)V"⟩, 9), (⟨"FoldedGroups$Graph", "findBasis", "()V"⟩, 9), (⟨"FoldedGroups$Draft", "moveBaseAlong", "(LFoldedGroups$Word;)V"⟩, 12), (⟨"FoldedGroups$Draft", "trim", "()V"⟩, 12), (⟨"FoldedGroups$Draft", "trimFrom", "(I)V"⟩, 12), (⟨"FoldedGroups$Draft", "onlyWay", "(I)I"⟩, 12), (⟨"FoldedGroups$Draft", "addPairs", "(LFoldedGroups$Graph;LFoldedGroups$Graph;)Z"⟩, 12), (⟨"FoldedGroups$Draft", "findOrAddPair", "(II)I"⟩, 12), (⟨"FoldedGroups", "isComplete", "(LFoldedGroups$Graph;)Z"⟩, 4), (⟨"FoldedGroups$Graph", "liesUpon", "(LFoldedGroups$Graph;I)Z"⟩, 9), (⟨"FoldedGroupsModel", "isLetter", "(I)Z"⟩, 25), (⟨"FoldedGroupsModel", "begin", "(I)V"⟩, 25), (⟨"FoldedGroupsModel", "addCopy", "(II)V"⟩, 25)]
theorem lw_r2 : ∀ q ∈ lw_privs_2, lw_okq q := List.forall_mem_cons.mpr ⟨lw_p16, List.forall_mem_cons.mpr ⟨lw_p17, List.forall_mem_cons.mpr ⟨lw_p18, List.forall_mem_cons.mpr ⟨lw_p19, List.forall_mem_cons.mpr ⟨lw_p20, List.forall_mem_cons.mpr ⟨lw_p21, List.forall_mem_cons.mpr ⟨lw_p22, List.forall_mem_cons.mpr ⟨lw_p23, List.forall_mem_cons.mpr ⟨lw_p24, List.forall_mem_cons.mpr ⟨lw_p25, List.forall_mem_cons.mpr ⟨lw_p26, List.forall_mem_cons.mpr ⟨lw_p27, List.forall_mem_cons.mpr ⟨lw_p28, List.forall_mem_cons.mpr ⟨lw_p29, List.forall_mem_cons.mpr ⟨lw_p30, List.forall_mem_cons.mpr ⟨lw_p31, fun _ h => absurd h List.not_mem_nil⟩⟩⟩⟩⟩⟩⟩⟩⟩⟩⟩⟩⟩⟩⟩⟩
theorem lw_p32 : lw_okq (⟨"FoldedGroupsModel", "way", "(III)I"⟩, 25) := ⟨⟨by decide +kernel, by decide +kernel⟩, List.mem_of_getElem? (i := 351) (by decide +kernel), List.mem_of_getElem? (i := 471) (by decide +kernel), List.mem_of_getElem? (i := 472) (by decide +kernel)⟩
theorem lw_p33 : lw_okq (⟨"FoldedGroupsModel", "addEdge", "(III)V"⟩, 25) := ⟨⟨by decide +kernel, by decide +kernel⟩, List.mem_of_getElem? (i := 351) (by decide +kernel), List.mem_of_getElem? (i := 475) (by decide +kernel), List.mem_of_getElem? (i := 476) (by decide +kernel)⟩
theorem lw_p34 : lw_okq (⟨"FoldedGroupsModel", "fold", "()V"⟩, 25) := ⟨⟨by decide +kernel, by decide +kernel⟩, List.mem_of_getElem? (i := 351) (by decide +kernel), List.mem_of_getElem? (i := 479) (by decide +kernel), List.mem_of_getElem? (i := 480) (by decide +kernel)⟩
theorem lw_p35 : lw_okq (⟨"FoldedGroupsModel", "foldOnce", "()Z"⟩, 25) := ⟨⟨by decide +kernel, by decide +kernel⟩, List.mem_of_getElem? (i := 351) (by decide +kernel), List.mem_of_getElem? (i := 483) (by decide +kernel), List.mem_of_getElem? (i := 484) (by decide +kernel)⟩
theorem lw_p36 : lw_okq (⟨"FoldedGroupsModel", "unite", "(II)V"⟩, 25) := ⟨⟨by decide +kernel, by decide +kernel⟩, List.mem_of_getElem? (i := 351) (by decide +kernel), List.mem_of_getElem? (i := 487) (by decide +kernel), List.mem_of_getElem? (i := 488) (by decide +kernel)⟩
theorem lw_p37 : lw_okq (⟨"FoldedGroupsModel", "settle", "(I)I"⟩, 25) := ⟨⟨by decide +kernel, by decide +kernel⟩, List.mem_of_getElem? (i := 351) (by decide +kernel), List.mem_of_getElem? (i := 491) (by decide +kernel), List.mem_of_getElem? (i := 492) (by decide +kernel)⟩
theorem lw_p38 : lw_okq (⟨"FoldedGroupsModel", "trim", "()V"⟩, 25) := ⟨⟨by decide +kernel, by decide +kernel⟩, List.mem_of_getElem? (i := 351) (by decide +kernel), List.mem_of_getElem? (i := 503) (by decide +kernel), List.mem_of_getElem? (i := 504) (by decide +kernel)⟩
theorem lw_p39 : lw_okq (⟨"FoldedGroupsModel", "onlyWay", "(I)I"⟩, 25) := ⟨⟨by decide +kernel, by decide +kernel⟩, List.mem_of_getElem? (i := 351) (by decide +kernel), List.mem_of_getElem? (i := 507) (by decide +kernel), List.mem_of_getElem? (i := 508) (by decide +kernel)⟩
theorem lw_p40 : lw_okq (⟨"FoldedGroupsModel", "pair", "(II)I"⟩, 25) := ⟨⟨by decide +kernel, by decide +kernel⟩, List.mem_of_getElem? (i := 351) (by decide +kernel), List.mem_of_getElem? (i := 519) (by decide +kernel), List.mem_of_getElem? (i := 520) (by decide +kernel)⟩
theorem lw_p41 : lw_okq (⟨"FoldedGroupsModel", "walk", "(I)I"⟩, 25) := ⟨⟨by decide +kernel, by decide +kernel⟩, List.mem_of_getElem? (i := 351) (by decide +kernel), List.mem_of_getElem? (i := 530) (by decide +kernel), List.mem_of_getElem? (i := 531) (by decide +kernel)⟩
theorem lw_p42 : lw_okq (⟨"FoldedGroupsModel", "find", "(II)Z"⟩, 25) := ⟨⟨by decide +kernel, by decide +kernel⟩, List.mem_of_getElem? (i := 351) (by decide +kernel), List.mem_of_getElem? (i := 542) (by decide +kernel), List.mem_of_getElem? (i := 543) (by decide +kernel)⟩
theorem lw_p43 : lw_okq (⟨"FoldedGroupsModel", "isTree", "(IIII)Z"⟩, 25) := ⟨⟨by decide +kernel, by decide +kernel⟩, List.mem_of_getElem? (i := 351) (by decide +kernel), List.mem_of_getElem? (i := 546) (by decide +kernel), List.mem_of_getElem? (i := 547) (by decide +kernel)⟩
theorem lw_p44 : lw_okq (⟨"FoldedGroupsModel", "putElement", "(I)V"⟩, 25) := ⟨⟨by decide +kernel, by decide +kernel⟩, List.mem_of_getElem? (i := 351) (by decide +kernel), List.mem_of_getElem? (i := 550) (by decide +kernel), List.mem_of_getElem? (i := 551) (by decide +kernel)⟩
theorem lw_p45 : lw_okq (⟨"FoldedGroupsModel", "putWay", "(II)V"⟩, 25) := ⟨⟨by decide +kernel, by decide +kernel⟩, List.mem_of_getElem? (i := 351) (by decide +kernel), List.mem_of_getElem? (i := 554) (by decide +kernel), List.mem_of_getElem? (i := 555) (by decide +kernel)⟩
theorem lw_p46 : lw_okq (⟨"FoldedGroupsModel", "put", "(I)V"⟩, 25) := ⟨⟨by decide +kernel, by decide +kernel⟩, List.mem_of_getElem? (i := 351) (by decide +kernel), List.mem_of_getElem? (i := 558) (by decide +kernel), List.mem_of_getElem? (i := 559) (by decide +kernel)⟩
theorem lw_p47 : lw_okq (⟨"FoldedGroupsModel", "elementsBefore", "(III)I"⟩, 25) := ⟨⟨by decide +kernel, by decide +kernel⟩, List.mem_of_getElem? (i := 351) (by decide +kernel), List.mem_of_getElem? (i := 574) (by decide +kernel), List.mem_of_getElem? (i := 575) (by decide +kernel)⟩
def lw_privs_3 : List (MethodName × Nat) := [(⟨"FoldedGroupsModel", "way", "(III)I"⟩, 25), (⟨"FoldedGroupsModel", "addEdge", "(III)V"⟩, 25), (⟨"FoldedGroupsModel", "fold", "()V"⟩, 25), (⟨"FoldedGroupsModel", "foldOnce", "()Z"⟩, 25), (⟨"FoldedGroupsModel", "unite", "(II)V"⟩, 25), (⟨"FoldedGroupsModel", "settle", "(I)I"⟩, 25), (⟨"FoldedGroupsModel", "trim", "()V"⟩, 25), (⟨"FoldedGroupsModel", "onlyWay", "(I)I"⟩, 25), (⟨"FoldedGroupsModel", "pair", "(II)I"⟩, 25), (⟨"FoldedGroupsModel", "walk", "(I)I"⟩, 25), (⟨"FoldedGroupsModel", "find", "(II)Z"⟩, 25), (⟨"FoldedGroupsModel", "isTree", "(IIII)Z"⟩, 25), (⟨"FoldedGroupsModel", "putElement", "(I)V"⟩, 25), (⟨"FoldedGroupsModel", "putWay", "(II)V"⟩, 25), (⟨"FoldedGroupsModel", "put", "(I)V"⟩, 25), (⟨"FoldedGroupsModel", "elementsBefore", "(III)I"⟩, 25)]
theorem lw_r3 : ∀ q ∈ lw_privs_3, lw_okq q := List.forall_mem_cons.mpr ⟨lw_p32, List.forall_mem_cons.mpr ⟨lw_p33, List.forall_mem_cons.mpr ⟨lw_p34, List.forall_mem_cons.mpr ⟨lw_p35, List.forall_mem_cons.mpr ⟨lw_p36, List.forall_mem_cons.mpr ⟨lw_p37, List.forall_mem_cons.mpr ⟨lw_p38, List.forall_mem_cons.mpr ⟨lw_p39, List.forall_mem_cons.mpr ⟨lw_p40, List.forall_mem_cons.mpr ⟨lw_p41, List.forall_mem_cons.mpr ⟨lw_p42, List.forall_mem_cons.mpr ⟨lw_p43, List.forall_mem_cons.mpr ⟨lw_p44, List.forall_mem_cons.mpr ⟨lw_p45, List.forall_mem_cons.mpr ⟨lw_p46, List.forall_mem_cons.mpr ⟨lw_p47, fun _ h => absurd h List.not_mem_nil⟩⟩⟩⟩⟩⟩⟩⟩⟩⟩⟩⟩⟩⟩⟩⟩
theorem lw_p48 : lw_okq (⟨"FoldedGroupsModel", "elements", "(I)I"⟩, 25) := ⟨⟨by decide +kernel, by decide +kernel⟩, List.mem_of_getElem? (i := 351) (by decide +kernel), List.mem_of_getElem? (i := 586) (by decide +kernel), List.mem_of_getElem? (i := 587) (by decide +kernel)⟩
theorem lw_p49 : lw_okq (⟨"FoldedGroupsModel", "leadsBack", "(I)Z"⟩, 25) := ⟨⟨by decide +kernel, by decide +kernel⟩, List.mem_of_getElem? (i := 351) (by decide +kernel), List.mem_of_getElem? (i := 594) (by decide +kernel), List.mem_of_getElem? (i := 595) (by decide +kernel)⟩
def lw_privs_4 : List (MethodName × Nat) := [(⟨"FoldedGroupsModel", "elements", "(I)I"⟩, 25), (⟨"FoldedGroupsModel", "leadsBack", "(I)Z"⟩, 25)]
theorem lw_r4 : ∀ q ∈ lw_privs_4, lw_okq q := List.forall_mem_cons.mpr ⟨lw_p48, List.forall_mem_cons.mpr ⟨lw_p49, fun _ h => absurd h List.not_mem_nil⟩⟩
def lw_privs : List (MethodName × Nat) := lw_privs_1 ++ (lw_privs_2 ++ (lw_privs_3 ++ (lw_privs_4)))
def lw_tbl : List Cond := k2_sels lw_privs ++ tables_1
theorem lw_privs_ok : ∀ q ∈ lw_privs, lw_okq q := by
  show ∀ q ∈ lw_privs_1 ++ (lw_privs_2 ++ (lw_privs_3 ++ (lw_privs_4))), lw_okq q
  exact List.forall_mem_append.mpr ⟨lw_r1, List.forall_mem_append.mpr ⟨lw_r2, List.forall_mem_append.mpr ⟨lw_r3, lw_r4⟩⟩⟩
def xG : List Cond := lw_tbl.filter goodWord
theorem xG_mem {w : Cond} (h : w ∈ lw_tbl) (hg : goodWord w = true) : w ∈ xG := List.mem_filter.mpr ⟨h, hg⟩
theorem xG_tab {w : Cond} (i : Nat) (h : tables_1[i]? = some w) (hg : goodWord w = true) : w ∈ xG := xG_mem (List.mem_append_right _ (List.mem_of_getElem? h)) hg
theorem xG_sel {w : Cond} (i : Nat) (h : (k2_sels lw_privs)[i]? = some w) (hg : goodWord w = true) : w ∈ xG := xG_mem (List.mem_append_left _ (List.mem_of_getElem? h)) hg
theorem xG_good {y : MethodName} {c : ByteArray} {n : Nat} {ret : Option FieldType} {w0 : Cond} (h : Cond.code y c n ret ∈ xG) : GoodIn (w0 :: xG) (Cond.code y c n ret :: xG) := by
  intro w hw
  have hw' : w ∈ xG := by
    rcases List.mem_cons.mp hw with rfl | q
    · exact h
    · exact q
  exact ⟨List.mem_cons_of_mem _ hw', good_of_word (List.mem_filter.mp hw').2⟩
def xIsN : Cond → Bool
  | .methodLinkNest .. => true
  | .fieldLinkNest .. => true
  | _ => false
def xNl : List Cond := lw_tbl.filter xIsN
theorem xN_tab {w : Cond} (i : Nat) (h : tables_1[i]? = some w) (hg : xIsN w = true) : w ∈ xNl := List.mem_filter.mpr ⟨List.mem_append_right _ (List.mem_of_getElem? h), hg⟩
def xN (S : State) : Prop := (∀ w ∈ xNl, va_Nw w S) ∧ va_AO "FoldedGroups$Graph" S
theorem xN_warm {s U : State} (hW : s.WarmedH U.vm) (h : xN s) : xN U := by
  refine ⟨?_, va_AO.moved hW.alike h.2⟩
  intro w hw
  have h1 := h.1 w hw
  have h2 := (List.mem_filter.mp hw).2
  cases w <;> first | exact va_Nw.warmM hW h1 | exact va_Nw.warmF hW h1 | (simp [xIsN] at h2)
theorem xN_on {w : Cond} (h : xIsN w = true) : w.onTables = true := by
  cases w <;> first | rfl | (simp [xIsN] at h)
theorem xN_same {u U : State} (h : u.vm = U.vm) (hN : xN u) : xN U := ⟨fun w hw => va_Nw.same (xN_on (List.mem_filter.mp hw).2) h (hN.1 w hw), va_AO.moved (by rw [h]; exact Vm.Alike.refl _) hN.2⟩
theorem xN_of {A : Array Value} {U : State} (h : ∀ w ∈ lw_tbl, w.before A U = true) : xN U := ⟨fun w hw => va_Nw.of (xN_on (List.mem_filter.mp hw).2) (h w (List.mem_filter.mp hw).1), va_AO.of (h _ (List.mem_append_right _ (List.mem_of_getElem? (l := tables_1) (i := 41) (by decide +kernel))))⟩
def RD : String := "FoldedGroups$Draft"
def TD : u_T := fun k => match k with
  | 0 => ("FoldedGroups$Draft", "size", "I", false)
  | 1 => ("FoldedGroups$Draft", "base", "I", false)
  | 2 => ("FoldedGroups$Draft", "edges", "I", false)
  | 3 => ("FoldedGroups$Draft", "froms", "[I", true)
  | 4 => ("FoldedGroups$Draft", "codes", "[I", true)
  | 5 => ("FoldedGroups$Draft", "tos", "[I", true)
  | 6 => ("FoldedGroups$Draft", "names", "[I", true)
  | 7 => ("FoldedGroups$Draft", "ways", "[I", true)
  | 8 => ("FoldedGroups$Draft", "lefts", "[I", true)
  | 9 => ("FoldedGroups$Draft", "rights", "[I", true)
  | 10 => ("FoldedGroups$Draft", "numbers", "[I", true)
  | _ => ("FoldedGroups$Draft", "order", "[I", true)
def tyD : Nat → FieldType := fun k => match k with
  | 0 => .int
  | 1 => .int
  | 2 => .int
  | 3 => .array .int
  | 4 => .array .int
  | 5 => .array .int
  | 6 => .array .int
  | 7 => .array .int
  | 8 => .array .int
  | 9 => .array .int
  | 10 => .array .int
  | _ => .array .int
theorem nmD : ∀ a, a < 12 → ∀ b, b < 12 → a ≠ b → (TD a).2.1 ≠ (TD b).2.1 := by decide +kernel
theorem tkD : ∀ k, k < 12 → parseFieldDescriptor (TD k).2.2.1 = some (tyD k) := by decide +kernel
theorem inD : ∀ w ∈ u_ws RD TD 12, w ∈ xG := by
  intro w hw
  obtain ⟨k, hk, rfl⟩ := List.mem_map.mp hw
  have hk := List.mem_range.mp hk
  match k, hk with
  | 0, _ => exact xG_tab 106 (by decide +kernel) rfl
  | 1, _ => exact xG_tab 108 (by decide +kernel) rfl
  | 2, _ => exact xG_tab 110 (by decide +kernel) rfl
  | 3, _ => exact xG_tab 112 (by decide +kernel) rfl
  | 4, _ => exact xG_tab 114 (by decide +kernel) rfl
  | 5, _ => exact xG_tab 116 (by decide +kernel) rfl
  | 6, _ => exact xG_tab 118 (by decide +kernel) rfl
  | 7, _ => exact xG_tab 120 (by decide +kernel) rfl
  | 8, _ => exact xG_tab 122 (by decide +kernel) rfl
  | 9, _ => exact xG_tab 124 (by decide +kernel) rfl
  | 10, _ => exact xG_tab 126 (by decide +kernel) rfl
  | 11, _ => exact xG_tab 128 (by decide +kernel) rfl
  | (q + 12), h => exact absurd h (by omega)
theorem jnD (w0 : Cond) : ∀ w ∈ u_ws RD TD 12, w ∈ w0 :: xG := fun w h => List.mem_cons_of_mem _ (inD w h)
def RG : String := "FoldedGroups$Graph"
def TG : u_T := fun k => match k with
  | 0 => ("FoldedGroups$Graph", "size", "I", false)
  | 1 => ("FoldedGroups$Graph", "edges", "I", false)
  | 2 => ("FoldedGroups$Graph", "rank", "I", false)
  | 3 => ("FoldedGroups$Graph", "ways", "[I", true)
  | 4 => ("FoldedGroups$Graph", "items", "[I", true)
  | 5 => ("FoldedGroups$Graph", "parents", "[I", true)
  | 6 => ("FoldedGroups$Graph", "codes", "[I", true)
  | 7 => ("FoldedGroups$Graph", "depths", "[I", true)
  | _ => ("FoldedGroups$Graph", "images", "[I", true)
def tyG : Nat → FieldType := fun k => match k with
  | 0 => .int
  | 1 => .int
  | 2 => .int
  | 3 => .array .int
  | 4 => .array .int
  | 5 => .array .int
  | 6 => .array .int
  | 7 => .array .int
  | _ => .array .int
theorem nmG : ∀ a, a < 9 → ∀ b, b < 9 → a ≠ b → (TG a).2.1 ≠ (TG b).2.1 := by decide +kernel
theorem tkG : ∀ k, k < 9 → parseFieldDescriptor (TG k).2.2.1 = some (tyG k) := by decide +kernel
theorem inG : ∀ w ∈ u_ws RG TG 9, w ∈ xG := by
  intro w hw
  obtain ⟨k, hk, rfl⟩ := List.mem_map.mp hw
  have hk := List.mem_range.mp hk
  match k, hk with
  | 0, _ => exact xG_tab 69 (by decide +kernel) rfl
  | 1, _ => exact xG_tab 71 (by decide +kernel) rfl
  | 2, _ => exact xG_tab 73 (by decide +kernel) rfl
  | 3, _ => exact xG_tab 75 (by decide +kernel) rfl
  | 4, _ => exact xG_tab 77 (by decide +kernel) rfl
  | 5, _ => exact xG_tab 79 (by decide +kernel) rfl
  | 6, _ => exact xG_tab 81 (by decide +kernel) rfl
  | 7, _ => exact xG_tab 83 (by decide +kernel) rfl
  | 8, _ => exact xG_tab 85 (by decide +kernel) rfl
  | (q + 9), h => exact absurd h (by omega)
theorem jnG (w0 : Cond) : ∀ w ∈ u_ws RG TG 9, w ∈ w0 :: xG := fun w h => List.mem_cons_of_mem _ (inG w h)
def RW : String := "FoldedGroups$Word"
def TW : u_T := fun k => match k with
  | 0 => ("FoldedGroups$Word", "row", "[I", true)
  | _ => ("FoldedGroups$Word", "size", "I", false)
def tyW : Nat → FieldType := fun k => match k with
  | 0 => .array .int
  | _ => .int
theorem nmW : ∀ a, a < 2 → ∀ b, b < 2 → a ≠ b → (TW a).2.1 ≠ (TW b).2.1 := by decide +kernel
theorem tkW : ∀ k, k < 2 → parseFieldDescriptor (TW k).2.2.1 = some (tyW k) := by decide +kernel
theorem inW : ∀ w ∈ u_ws RW TW 2, w ∈ xG := by
  intro w hw
  obtain ⟨k, hk, rfl⟩ := List.mem_map.mp hw
  have hk := List.mem_range.mp hk
  match k, hk with
  | 0, _ => exact xG_tab 34 (by decide +kernel) rfl
  | 1, _ => exact xG_tab 36 (by decide +kernel) rfl
  | (q + 2), h => exact absurd h (by omega)
theorem jnW (w0 : Cond) : ∀ w ∈ u_ws RW TW 2, w ∈ w0 :: xG := fun w h => List.mem_cons_of_mem _ (inW w h)
def RX : String := "FoldedGroups"
def TX : u_T := fun k => match k with
  | 0 => ("FoldedGroups", "letters", "I", true)
  | 1 => ("FoldedGroups", "typed", "LFoldedGroups$Word;", true)
  | 2 => ("FoldedGroups", "graphs", "[LFoldedGroups$Graph;", true)
  | _ => ("FoldedGroups", "draft", "LFoldedGroups$Draft;", true)
def tyX : Nat → FieldType := fun k => match k with
  | 0 => .int
  | 1 => .object "FoldedGroups$Word"
  | 2 => .array (.object "FoldedGroups$Graph")
  | _ => .object "FoldedGroups$Draft"
theorem nmX : ∀ a, a < 4 → ∀ b, b < 4 → a ≠ b → (TX a).2.1 ≠ (TX b).2.1 := by decide +kernel
theorem tkX : ∀ k, k < 4 → parseFieldDescriptor (TX k).2.2.1 = some (tyX k) := by decide +kernel
theorem inX : ∀ w ∈ u_ws RX TX 4, w ∈ xG := by
  intro w hw
  obtain ⟨k, hk, rfl⟩ := List.mem_map.mp hw
  have hk := List.mem_range.mp hk
  match k, hk with
  | 0, _ => exact xG_tab 135 (by decide +kernel) rfl
  | 1, _ => exact xG_tab 137 (by decide +kernel) rfl
  | 2, _ => exact xG_tab 139 (by decide +kernel) rfl
  | 3, _ => exact xG_tab 141 (by decide +kernel) rfl
  | (q + 4), h => exact absurd h (by omega)
theorem jnX (w0 : Cond) : ∀ w ∈ u_ws RX TX 4, w ∈ w0 :: xG := fun w h => List.mem_cons_of_mem _ (inX w h)
def RM : String := "FoldedGroupsModel"
def TM : u_T := fun k => match k with
  | 0 => ("FoldedGroupsModel", "letters", "I", true)
  | 1 => ("FoldedGroupsModel", "size", "I", false)
  | 2 => ("FoldedGroupsModel", "word", "[I", true)
  | 3 => ("FoldedGroupsModel", "vertices", "[I", true)
  | 4 => ("FoldedGroupsModel", "ways", "[I", true)
  | 5 => ("FoldedGroupsModel", "parents", "[I", true)
  | 6 => ("FoldedGroupsModel", "arrivals", "[I", true)
  | 7 => ("FoldedGroupsModel", "depths", "[I", true)
  | 8 => ("FoldedGroupsModel", "raw", "I", false)
  | 9 => ("FoldedGroupsModel", "base", "I", false)
  | 10 => ("FoldedGroupsModel", "edges", "I", false)
  | 11 => ("FoldedGroupsModel", "from", "[I", true)
  | 12 => ("FoldedGroupsModel", "by", "[I", true)
  | 13 => ("FoldedGroupsModel", "to", "[I", true)
  | 14 => ("FoldedGroupsModel", "same", "[I", true)
  | 15 => ("FoldedGroupsModel", "table", "[I", true)
  | 16 => ("FoldedGroupsModel", "numbers", "[I", true)
  | 17 => ("FoldedGroupsModel", "order", "[I", true)
  | 18 => ("FoldedGroupsModel", "left", "[I", true)
  | 19 => ("FoldedGroupsModel", "right", "[I", true)
  | 20 => ("FoldedGroupsModel", "foundFrom", "I", false)
  | 21 => ("FoldedGroupsModel", "foundBy", "I", false)
  | 22 => ("FoldedGroupsModel", "foundTo", "I", false)
  | 23 => ("FoldedGroupsModel", "many", "I", false)
  | _ => ("FoldedGroupsModel", "row", "[I", true)
def tyM : Nat → FieldType := fun k => match k with
  | 0 => .int
  | 1 => .int
  | 2 => .array .int
  | 3 => .array .int
  | 4 => .array .int
  | 5 => .array .int
  | 6 => .array .int
  | 7 => .array .int
  | 8 => .int
  | 9 => .int
  | 10 => .int
  | 11 => .array .int
  | 12 => .array .int
  | 13 => .array .int
  | 14 => .array .int
  | 15 => .array .int
  | 16 => .array .int
  | 17 => .array .int
  | 18 => .array .int
  | 19 => .array .int
  | 20 => .int
  | 21 => .int
  | 22 => .int
  | 23 => .int
  | _ => .array .int
theorem nmM : ∀ a, a < 25 → ∀ b, b < 25 → a ≠ b → (TM a).2.1 ≠ (TM b).2.1 := by decide +kernel
theorem tkM : ∀ k, k < 25 → parseFieldDescriptor (TM k).2.2.1 = some (tyM k) := by decide +kernel
theorem inM : ∀ w ∈ u_ws RM TM 25, w ∈ xG := by
  intro w hw
  obtain ⟨k, hk, rfl⟩ := List.mem_map.mp hw
  have hk := List.mem_range.mp hk
  match k, hk with
  | 0, _ => exact xG_tab 381 (by decide +kernel) rfl
  | 1, _ => exact xG_tab 383 (by decide +kernel) rfl
  | 2, _ => exact xG_tab 385 (by decide +kernel) rfl
  | 3, _ => exact xG_tab 387 (by decide +kernel) rfl
  | 4, _ => exact xG_tab 389 (by decide +kernel) rfl
  | 5, _ => exact xG_tab 391 (by decide +kernel) rfl
  | 6, _ => exact xG_tab 393 (by decide +kernel) rfl
  | 7, _ => exact xG_tab 395 (by decide +kernel) rfl
  | 8, _ => exact xG_tab 397 (by decide +kernel) rfl
  | 9, _ => exact xG_tab 399 (by decide +kernel) rfl
  | 10, _ => exact xG_tab 401 (by decide +kernel) rfl
  | 11, _ => exact xG_tab 403 (by decide +kernel) rfl
  | 12, _ => exact xG_tab 405 (by decide +kernel) rfl
  | 13, _ => exact xG_tab 407 (by decide +kernel) rfl
  | 14, _ => exact xG_tab 409 (by decide +kernel) rfl
  | 15, _ => exact xG_tab 411 (by decide +kernel) rfl
  | 16, _ => exact xG_tab 413 (by decide +kernel) rfl
  | 17, _ => exact xG_tab 415 (by decide +kernel) rfl
  | 18, _ => exact xG_tab 417 (by decide +kernel) rfl
  | 19, _ => exact xG_tab 419 (by decide +kernel) rfl
  | 20, _ => exact xG_tab 421 (by decide +kernel) rfl
  | 21, _ => exact xG_tab 423 (by decide +kernel) rfl
  | 22, _ => exact xG_tab 425 (by decide +kernel) rfl
  | 23, _ => exact xG_tab 427 (by decide +kernel) rfl
  | 24, _ => exact xG_tab 429 (by decide +kernel) rfl
  | (q + 25), h => exact absurd h (by omega)
theorem jnM (w0 : Cond) : ∀ w ∈ u_ws RM TM 25, w ∈ w0 :: xG := fun w h => List.mem_cons_of_mem _ (inM w h)
def RL : String := "FoldedGroupsLaw"
def RJ : String := "java/util/Arrays"
abbrev vwCl : List vw_C := [(RD, TD, 12), (RG, TG, 9), (RW, TW, 2), (RX, TX, 4), (RM, TM, 25)]
abbrev cX_init : ByteArray := prog_1_method_1_code
def yX_init : MethodName := ⟨RX, "<init>", "(I)V"⟩
abbrev cX_letter : ByteArray := prog_1_method_2_code
def yX_letter : MethodName := ⟨RX, "letter", "(I)I"⟩
abbrev cX_clear : ByteArray := prog_1_method_3_code
def yX_clear : MethodName := ⟨RX, "clear", "()I"⟩
abbrev cX_invert : ByteArray := prog_1_method_4_code
def yX_invert : MethodName := ⟨RX, "invert", "()I"⟩
abbrev cX_at : ByteArray := prog_1_method_5_code
def yX_at : MethodName := ⟨RX, "at", "(I)I"⟩
abbrev cX_take : ByteArray := prog_1_method_6_code
def yX_take : MethodName := ⟨RX, "take", "(II)I"⟩
abbrev cX_generate : ByteArray := prog_1_method_7_code
def yX_generate : MethodName := ⟨RX, "generate", "(I)I"⟩
abbrev cX_drop : ByteArray := prog_1_method_8_code
def yX_drop : MethodName := ⟨RX, "drop", "(I)I"⟩
abbrev cX_conjugate : ByteArray := prog_1_method_9_code
def yX_conjugate : MethodName := ⟨RX, "conjugate", "(II)I"⟩
abbrev cX_meet : ByteArray := prog_1_method_10_code
def yX_meet : MethodName := ⟨RX, "meet", "(III)I"⟩
abbrev cX_join : ByteArray := prog_1_method_11_code
def yX_join : MethodName := ⟨RX, "join", "(III)I"⟩
abbrev cX_member : ByteArray := prog_1_method_12_code
def yX_member : MethodName := ⟨RX, "member", "(I)Z"⟩
abbrev cX_trace : ByteArray := prog_1_method_13_code
def yX_trace : MethodName := ⟨RX, "trace", "(I)I"⟩
abbrev cX_written : ByteArray := prog_1_method_14_code
def yX_written : MethodName := ⟨RX, "written", "(II)I"⟩
abbrev cX_length : ByteArray := prog_1_method_15_code
def yX_length : MethodName := ⟨RX, "length", "(II)I"⟩
abbrev cX_basis : ByteArray := prog_1_method_16_code
def yX_basis : MethodName := ⟨RX, "basis", "(III)I"⟩
abbrev cX_target : ByteArray := prog_1_method_17_code
def yX_target : MethodName := ⟨RX, "target", "(III)I"⟩
abbrev cX_figure : ByteArray := prog_1_method_18_code
def yX_figure : MethodName := ⟨RX, "figure", "(II)I"⟩
abbrev cX_contains : ByteArray := prog_1_method_19_code
def yX_contains : MethodName := ⟨RX, "contains", "(II)Z"⟩
abbrev cX_normal : ByteArray := prog_1_method_20_code
def yX_normal : MethodName := ⟨RX, "normal", "(I)Z"⟩
abbrev cX_isSubgroup : ByteArray := prog_1_method_21_code
def yX_isSubgroup : MethodName := ⟨RX, "isSubgroup", "(I)Z"⟩
abbrev cX_isLetter : ByteArray := prog_1_method_22_code
def yX_isLetter : MethodName := ⟨RX, "isLetter", "(I)Z"⟩
abbrev cX_isComplete : ByteArray := prog_1_method_23_code
def yX_isComplete : MethodName := ⟨RX, "isComplete", "(LFoldedGroups$Graph;)Z"⟩
abbrev cX_codeOf : ByteArray := prog_1_method_24_code
def yX_codeOf : MethodName := ⟨RX, "codeOf", "(I)I"⟩
abbrev cX_letterOf : ByteArray := prog_1_method_25_code
def yX_letterOf : MethodName := ⟨RX, "letterOf", "(I)I"⟩
abbrev cM_init : ByteArray := prog_6_method_1_code
def yM_init : MethodName := ⟨RM, "<init>", "(I)V"⟩
abbrev cM_isLetter : ByteArray := prog_6_method_2_code
def yM_isLetter : MethodName := ⟨RM, "isLetter", "(I)Z"⟩
abbrev cM_isGroup : ByteArray := prog_6_method_3_code
def yM_isGroup : MethodName := ⟨RM, "isGroup", "(I)Z"⟩
abbrev cM_numberOf : ByteArray := prog_6_method_4_code
def yM_numberOf : MethodName := ⟨RM, "numberOf", "(I)I"⟩
abbrev cM_letterOf : ByteArray := prog_6_method_5_code
def yM_letterOf : MethodName := ⟨RM, "letterOf", "(I)I"⟩
abbrev cM_way : ByteArray := prog_6_method_6_code
def yM_way : MethodName := ⟨RM, "way", "(III)I"⟩
abbrev cM_letter : ByteArray := prog_6_method_7_code
def yM_letter : MethodName := ⟨RM, "letter", "(I)I"⟩
abbrev cM_clear : ByteArray := prog_6_method_8_code
def yM_clear : MethodName := ⟨RM, "clear", "()I"⟩
abbrev cM_invert : ByteArray := prog_6_method_9_code
def yM_invert : MethodName := ⟨RM, "invert", "()I"⟩
abbrev cM_at : ByteArray := prog_6_method_10_code
def yM_at : MethodName := ⟨RM, "at", "(I)I"⟩
abbrev cM_begin : ByteArray := prog_6_method_11_code
def yM_begin : MethodName := ⟨RM, "begin", "(I)V"⟩
abbrev cM_addEdge : ByteArray := prog_6_method_12_code
def yM_addEdge : MethodName := ⟨RM, "addEdge", "(III)V"⟩
abbrev cM_addCopy : ByteArray := prog_6_method_13_code
def yM_addCopy : MethodName := ⟨RM, "addCopy", "(II)V"⟩
abbrev cM_unite : ByteArray := prog_6_method_14_code
def yM_unite : MethodName := ⟨RM, "unite", "(II)V"⟩
abbrev cM_foldOnce : ByteArray := prog_6_method_15_code
def yM_foldOnce : MethodName := ⟨RM, "foldOnce", "()Z"⟩
abbrev cM_fold : ByteArray := prog_6_method_16_code
def yM_fold : MethodName := ⟨RM, "fold", "()V"⟩
abbrev cM_onlyWay : ByteArray := prog_6_method_17_code
def yM_onlyWay : MethodName := ⟨RM, "onlyWay", "(I)I"⟩
abbrev cM_trim : ByteArray := prog_6_method_18_code
def yM_trim : MethodName := ⟨RM, "trim", "()V"⟩
abbrev cM_settle : ByteArray := prog_6_method_19_code
def yM_settle : MethodName := ⟨RM, "settle", "(I)I"⟩
abbrev cM_generate : ByteArray := prog_6_method_20_code
def yM_generate : MethodName := ⟨RM, "generate", "(I)I"⟩
abbrev cM_drop : ByteArray := prog_6_method_21_code
def yM_drop : MethodName := ⟨RM, "drop", "(I)I"⟩
abbrev cM_conjugate : ByteArray := prog_6_method_22_code
def yM_conjugate : MethodName := ⟨RM, "conjugate", "(II)I"⟩
abbrev cM_join : ByteArray := prog_6_method_23_code
def yM_join : MethodName := ⟨RM, "join", "(III)I"⟩
abbrev cM_pair : ByteArray := prog_6_method_24_code
def yM_pair : MethodName := ⟨RM, "pair", "(II)I"⟩
abbrev cM_meet : ByteArray := prog_6_method_25_code
def yM_meet : MethodName := ⟨RM, "meet", "(III)I"⟩
abbrev cM_walk : ByteArray := prog_6_method_26_code
def yM_walk : MethodName := ⟨RM, "walk", "(I)I"⟩
abbrev cM_trace : ByteArray := prog_6_method_27_code
def yM_trace : MethodName := ⟨RM, "trace", "(I)I"⟩
abbrev cM_member : ByteArray := prog_6_method_28_code
def yM_member : MethodName := ⟨RM, "member", "(I)Z"⟩
abbrev cM_isTree : ByteArray := prog_6_method_29_code
def yM_isTree : MethodName := ⟨RM, "isTree", "(IIII)Z"⟩
abbrev cM_elementsBefore : ByteArray := prog_6_method_30_code
def yM_elementsBefore : MethodName := ⟨RM, "elementsBefore", "(III)I"⟩
abbrev cM_elements : ByteArray := prog_6_method_31_code
def yM_elements : MethodName := ⟨RM, "elements", "(I)I"⟩
abbrev cM_find : ByteArray := prog_6_method_32_code
def yM_find : MethodName := ⟨RM, "find", "(II)Z"⟩
abbrev cM_put : ByteArray := prog_6_method_33_code
def yM_put : MethodName := ⟨RM, "put", "(I)V"⟩
abbrev cM_putWay : ByteArray := prog_6_method_34_code
def yM_putWay : MethodName := ⟨RM, "putWay", "(II)V"⟩
abbrev cM_putElement : ByteArray := prog_6_method_35_code
def yM_putElement : MethodName := ⟨RM, "putElement", "(I)V"⟩
abbrev cM_leadsBack : ByteArray := prog_6_method_36_code
def yM_leadsBack : MethodName := ⟨RM, "leadsBack", "(I)Z"⟩
abbrev cM_take : ByteArray := prog_6_method_37_code
def yM_take : MethodName := ⟨RM, "take", "(II)I"⟩
abbrev cM_length : ByteArray := prog_6_method_38_code
def yM_length : MethodName := ⟨RM, "length", "(II)I"⟩
abbrev cM_basis : ByteArray := prog_6_method_39_code
def yM_basis : MethodName := ⟨RM, "basis", "(III)I"⟩
abbrev cM_written : ByteArray := prog_6_method_40_code
def yM_written : MethodName := ⟨RM, "written", "(II)I"⟩
abbrev cM_target : ByteArray := prog_6_method_41_code
def yM_target : MethodName := ⟨RM, "target", "(III)I"⟩
abbrev cM_figure : ByteArray := prog_6_method_42_code
def yM_figure : MethodName := ⟨RM, "figure", "(II)I"⟩
abbrev cM_contains : ByteArray := prog_6_method_43_code
def yM_contains : MethodName := ⟨RM, "contains", "(II)Z"⟩
abbrev cM_normal : ByteArray := prog_6_method_44_code
def yM_normal : MethodName := ⟨RM, "normal", "(I)Z"⟩
abbrev cD_init : ByteArray := prog_2_method_1_code
def yD_init : MethodName := ⟨RD, "<init>", "()V"⟩
abbrev cD_begin : ByteArray := prog_2_method_2_code
def yD_begin : MethodName := ⟨RD, "begin", "()V"⟩
abbrev cD_addEdge : ByteArray := prog_2_method_3_code
def yD_addEdge : MethodName := ⟨RD, "addEdge", "(III)V"⟩
abbrev cD_addCopy : ByteArray := prog_2_method_4_code
def yD_addCopy : MethodName := ⟨RD, "addCopy", "(LFoldedGroups$Graph;)V"⟩
abbrev cD_addRing : ByteArray := prog_2_method_5_code
def yD_addRing : MethodName := ⟨RD, "addRing", "(LFoldedGroups$Word;)V"⟩
abbrev cD_moveBaseAlong : ByteArray := prog_2_method_6_code
def yD_moveBaseAlong : MethodName := ⟨RD, "moveBaseAlong", "(LFoldedGroups$Word;)V"⟩
abbrev cD_addRow : ByteArray := prog_2_method_7_code
def yD_addRow : MethodName := ⟨RD, "addRow", "(LFoldedGroups$Word;I)I"⟩
abbrev cD_fold : ByteArray := prog_2_method_8_code
def yD_fold : MethodName := ⟨RD, "fold", "()V"⟩
abbrev cD_layWay : ByteArray := prog_2_method_9_code
def yD_layWay : MethodName := ⟨RD, "layWay", "(III)Z"⟩
abbrev cD_unite : ByteArray := prog_2_method_10_code
def yD_unite : MethodName := ⟨RD, "unite", "(II)V"⟩
abbrev cD_addPairs : ByteArray := prog_2_method_11_code
def yD_addPairs : MethodName := ⟨RD, "addPairs", "(LFoldedGroups$Graph;LFoldedGroups$Graph;)Z"⟩
abbrev cD_findOrAddPair : ByteArray := prog_2_method_12_code
def yD_findOrAddPair : MethodName := ⟨RD, "findOrAddPair", "(II)I"⟩
abbrev cD_trim : ByteArray := prog_2_method_13_code
def yD_trim : MethodName := ⟨RD, "trim", "()V"⟩
abbrev cD_trimFrom : ByteArray := prog_2_method_14_code
def yD_trimFrom : MethodName := ⟨RD, "trimFrom", "(I)V"⟩
abbrev cD_onlyWay : ByteArray := prog_2_method_15_code
def yD_onlyWay : MethodName := ⟨RD, "onlyWay", "(I)I"⟩
abbrev cD_numberInto : ByteArray := prog_2_method_16_code
def yD_numberInto : MethodName := ⟨RD, "numberInto", "(LFoldedGroups$Graph;)I"⟩
abbrev cG_init : ByteArray := prog_3_method_1_code
def yG_init : MethodName := ⟨RG, "<init>", "()V"⟩
abbrev cG_reset : ByteArray := prog_3_method_2_code
def yG_reset : MethodName := ⟨RG, "reset", "()V"⟩
abbrev cG_way : ByteArray := prog_3_method_3_code
def yG_way : MethodName := ⟨RG, "way", "(II)I"⟩
abbrev cG_growTree : ByteArray := prog_3_method_4_code
def yG_growTree : MethodName := ⟨RG, "growTree", "(II)V"⟩
abbrev cG_findBasis : ByteArray := prog_3_method_5_code
def yG_findBasis : MethodName := ⟨RG, "findBasis", "()V"⟩
abbrev cG_slotOfElement : ByteArray := prog_3_method_6_code
def yG_slotOfElement : MethodName := ⟨RG, "slotOfElement", "(I)I"⟩
abbrev cG_elementSize : ByteArray := prog_3_method_7_code
def yG_elementSize : MethodName := ⟨RG, "elementSize", "(I)I"⟩
abbrev cG_elementLetter : ByteArray := prog_3_method_8_code
def yG_elementLetter : MethodName := ⟨RG, "elementLetter", "(II)I"⟩
abbrev cG_climb : ByteArray := prog_3_method_9_code
def yG_climb : MethodName := ⟨RG, "climb", "(II)I"⟩
abbrev cG_liesUpon : ByteArray := prog_3_method_10_code
def yG_liesUpon : MethodName := ⟨RG, "liesUpon", "(LFoldedGroups$Graph;I)Z"⟩
abbrev cW_init : ByteArray := prog_4_method_1_code
def yW_init : MethodName := ⟨RW, "<init>", "()V"⟩
abbrev cW_append : ByteArray := prog_4_method_2_code
def yW_append : MethodName := ⟨RW, "append", "(I)I"⟩
abbrev cW_turnRound : ByteArray := prog_4_method_3_code
def yW_turnRound : MethodName := ⟨RW, "turnRound", "()V"⟩
abbrev cL_cell : ByteArray := method_2_code
def yL_cell : MethodName := ⟨RL, "cell", "([II)I"⟩
abbrev cJ_fill : ByteArray := prog_8_method_103_code
def yJ_fill : MethodName := ⟨RJ, "fill", "([II)V"⟩
theorem knL : Cond.initialized RL ∈ xG := xG_tab 0 (by first | rfl | decide +kernel) rfl
theorem knX : Cond.initialized RX ∈ xG := xG_tab 1 (by first | rfl | decide +kernel) rfl
theorem knA : Cond.initialized "java/lang/Math" ∈ xG := xG_tab 2 (by first | rfl | decide +kernel) rfl
theorem knW : Cond.initialized RW ∈ xG := xG_tab 3 (by first | rfl | decide +kernel) rfl
theorem knG : Cond.initialized RG ∈ xG := xG_tab 4 (by first | rfl | decide +kernel) rfl
theorem knJ : Cond.initialized RJ ∈ xG := xG_tab 5 (by first | rfl | decide +kernel) rfl
theorem knD : Cond.initialized RD ∈ xG := xG_tab 6 (by first | rfl | decide +kernel) rfl
theorem knM : Cond.initialized RM ∈ xG := xG_tab 7 (by first | rfl | decide +kernel) rfl
theorem kkL_7 : Cond.classLink RL 7 RX ∈ xG := xG_tab 8 (by first | rfl | decide +kernel) rfl
theorem kbX : Cond.instantiable RX 4 ∈ xG := xG_tab 9 (by first | rfl | decide +kernel) rfl
theorem klL_15 : Cond.methodLink RL 15 yX_init ∈ xG := xG_tab 10 (by first | rfl | decide +kernel) rfl
theorem kiX_init : Cond.instanceMethod yX_init ∈ xG := xG_tab 11 (by first | rfl | decide +kernel) rfl
theorem kcX_init : Cond.code yX_init cX_init 3 none ∈ xG := xG_tab 12 (by first | rfl | decide +kernel) rfl
theorem klX_3 : Cond.methodLink RX 3 objectInit ∈ xG := xG_tab 13 (by first | rfl | decide +kernel) rfl
theorem kiO : Cond.instanceMethod objectInit ∈ xG := xG_tab 14 (by first | rfl | decide +kernel) rfl
theorem kcO : Cond.code objectInit ⟨#[0xb1]⟩ 1 none ∈ xG := xG_tab 15 (by first | rfl | decide +kernel) rfl
theorem klX_9 : Cond.methodLink RX 9 Lib.Math.min.name ∈ xG := xG_tab 16 (by first | rfl | decide +kernel) rfl
theorem ksA_min : Cond.static Lib.Math.min.name ∈ xG := xG_tab 17 (by first | rfl | decide +kernel) rfl
theorem kcA_min : Cond.code Lib.Math.min.name Lib.Math.min.code 2 (some .int) ∈ xG := xG_tab 18 (by first | rfl | decide +kernel) rfl
theorem klX_15 : Cond.methodLink RX 15 Lib.Math.max.name ∈ xG := xG_tab 19 (by first | rfl | decide +kernel) rfl
theorem ksA_max : Cond.static Lib.Math.max.name ∈ xG := xG_tab 20 (by first | rfl | decide +kernel) rfl
theorem kcA_max : Cond.code Lib.Math.max.name Lib.Math.max.code 2 (some .int) ∈ xG := xG_tab 21 (by first | rfl | decide +kernel) rfl
theorem kkX_22 : Cond.classLink RX 22 RW ∈ xG := xG_tab 22 (by first | rfl | decide +kernel) rfl
theorem kbW : Cond.instantiable RW 2 ∈ xG := xG_tab 23 (by first | rfl | decide +kernel) rfl
theorem nlX_24 : Cond.methodLinkNest RX 24 yW_init RX ∈ xNl := xN_tab 24 (by first | rfl | decide +kernel) rfl
theorem kiW_init : Cond.instanceMethod yW_init ∈ xG := xG_tab 25 (by first | rfl | decide +kernel) rfl
theorem kcW_init : Cond.code yW_init cW_init 1 none ∈ xG := xG_tab 26 (by first | rfl | decide +kernel) rfl
theorem klW_3 : Cond.methodLink RW 3 objectInit ∈ xG := xG_tab 27 (by first | rfl | decide +kernel) rfl
theorem kfW_9 : Cond.fieldLink RW 9 RW "row" "[I" ∈ xG := xG_tab 28 (by first | rfl | decide +kernel) rfl
theorem nfX_57 : Cond.fieldLinkNest RX 57 RW "row" "[I" RX ∈ xNl := xN_tab 29 (by first | rfl | decide +kernel) rfl
theorem nfD_73 : Cond.fieldLinkNest RD 73 RW "row" "[I" RX ∈ xNl := xN_tab 30 (by first | rfl | decide +kernel) rfl
theorem kfW_15 : Cond.fieldLink RW 15 RW "size" "I" ∈ xG := xG_tab 31 (by first | rfl | decide +kernel) rfl
theorem nfX_51 : Cond.fieldLinkNest RX 51 RW "size" "I" RX ∈ xNl := xN_tab 32 (by first | rfl | decide +kernel) rfl
theorem nfD_66 : Cond.fieldLinkNest RD 66 RW "size" "I" RX ∈ xNl := xN_tab 33 (by first | rfl | decide +kernel) rfl
theorem kaI : Cond.arrayClass .int ∈ xG := xG_tab 39 (by first | rfl | decide +kernel) rfl
theorem kkX_29 : Cond.classLink RX 29 RG ∈ xG := xG_tab 40 (by first | rfl | decide +kernel) rfl
theorem kbG : Cond.instantiable RG 9 ∈ xG := xG_tab 42 (by first | rfl | decide +kernel) rfl
theorem nlX_35 : Cond.methodLinkNest RX 35 yG_init RX ∈ xNl := xN_tab 43 (by first | rfl | decide +kernel) rfl
theorem kiG_init : Cond.instanceMethod yG_init ∈ xG := xG_tab 44 (by first | rfl | decide +kernel) rfl
theorem kcG_init : Cond.code yG_init cG_init 1 none ∈ xG := xG_tab 45 (by first | rfl | decide +kernel) rfl
theorem klG_3 : Cond.methodLink RG 3 objectInit ∈ xG := xG_tab 46 (by first | rfl | decide +kernel) rfl
theorem klG_30 : Cond.methodLink RG 30 yG_reset ∈ xG := xG_tab 47 (by first | rfl | decide +kernel) rfl
theorem kiG_reset : Cond.instanceMethod yG_reset ∈ xG := xG_tab 49 (by first | rfl | decide +kernel) rfl
theorem kcG_reset : Cond.code yG_reset cG_reset 1 none ∈ xG := xG_tab 50 (by first | rfl | decide +kernel) rfl
theorem klG_43 : Cond.methodLink RG 43 yJ_fill ∈ xG := xG_tab 51 (by first | rfl | decide +kernel) rfl
theorem ksJ_fill : Cond.static yJ_fill ∈ xG := xG_tab 52 (by first | rfl | decide +kernel) rfl
theorem kcJ_fill : Cond.code yJ_fill cJ_fill 4 none ∈ xG := xG_tab 53 (by first | rfl | decide +kernel) rfl
theorem kfG_33 : Cond.fieldLink RG 33 RG "size" "I" ∈ xG := xG_tab 54 (by first | rfl | decide +kernel) rfl
theorem nfD_55 : Cond.fieldLinkNest RD 55 RG "size" "I" RX ∈ xNl := xN_tab 55 (by first | rfl | decide +kernel) rfl
theorem nfX_73 : Cond.fieldLinkNest RX 73 RG "size" "I" RX ∈ xNl := xN_tab 56 (by first | rfl | decide +kernel) rfl
theorem kfG_37 : Cond.fieldLink RG 37 RG "edges" "I" ∈ xG := xG_tab 57 (by first | rfl | decide +kernel) rfl
theorem nfX_123 : Cond.fieldLinkNest RX 123 RG "edges" "I" RX ∈ xNl := xN_tab 58 (by first | rfl | decide +kernel) rfl
theorem kfG_40 : Cond.fieldLink RG 40 RG "rank" "I" ∈ xG := xG_tab 59 (by first | rfl | decide +kernel) rfl
theorem nfX_126 : Cond.fieldLinkNest RX 126 RG "rank" "I" RX ∈ xNl := xN_tab 60 (by first | rfl | decide +kernel) rfl
theorem kfG_9 : Cond.fieldLink RG 9 RG "ways" "[I" ∈ xG := xG_tab 61 (by first | rfl | decide +kernel) rfl
theorem nfD_104 : Cond.fieldLinkNest RD 104 RG "ways" "[I" RX ∈ xNl := xN_tab 62 (by first | rfl | decide +kernel) rfl
theorem kfG_15 : Cond.fieldLink RG 15 RG "items" "[I" ∈ xG := xG_tab 63 (by first | rfl | decide +kernel) rfl
theorem nfX_117 : Cond.fieldLinkNest RX 117 RG "items" "[I" RX ∈ xNl := xN_tab 64 (by first | rfl | decide +kernel) rfl
theorem kfG_18 : Cond.fieldLink RG 18 RG "parents" "[I" ∈ xG := xG_tab 65 (by first | rfl | decide +kernel) rfl
theorem kfG_21 : Cond.fieldLink RG 21 RG "codes" "[I" ∈ xG := xG_tab 66 (by first | rfl | decide +kernel) rfl
theorem kfG_24 : Cond.fieldLink RG 24 RG "depths" "[I" ∈ xG := xG_tab 67 (by first | rfl | decide +kernel) rfl
theorem kfG_27 : Cond.fieldLink RG 27 RG "images" "[I" ∈ xG := xG_tab 68 (by first | rfl | decide +kernel) rfl
theorem kkX_36 : Cond.classLink RX 36 RD ∈ xG := xG_tab 88 (by first | rfl | decide +kernel) rfl
theorem kbD : Cond.instantiable RD 12 ∈ xG := xG_tab 89 (by first | rfl | decide +kernel) rfl
theorem nlX_38 : Cond.methodLinkNest RX 38 yD_init RX ∈ xNl := xN_tab 90 (by first | rfl | decide +kernel) rfl
theorem kiD_init : Cond.instanceMethod yD_init ∈ xG := xG_tab 91 (by first | rfl | decide +kernel) rfl
theorem kcD_init : Cond.code yD_init cD_init 1 none ∈ xG := xG_tab 92 (by first | rfl | decide +kernel) rfl
theorem klD_3 : Cond.methodLink RD 3 objectInit ∈ xG := xG_tab 93 (by first | rfl | decide +kernel) rfl
theorem kfD_39 : Cond.fieldLink RD 39 RD "size" "I" ∈ xG := xG_tab 94 (by first | rfl | decide +kernel) rfl
theorem kfD_43 : Cond.fieldLink RD 43 RD "base" "I" ∈ xG := xG_tab 95 (by first | rfl | decide +kernel) rfl
theorem kfD_46 : Cond.fieldLink RD 46 RD "edges" "I" ∈ xG := xG_tab 96 (by first | rfl | decide +kernel) rfl
theorem kfD_9 : Cond.fieldLink RD 9 RD "froms" "[I" ∈ xG := xG_tab 97 (by first | rfl | decide +kernel) rfl
theorem kfD_15 : Cond.fieldLink RD 15 RD "codes" "[I" ∈ xG := xG_tab 98 (by first | rfl | decide +kernel) rfl
theorem kfD_18 : Cond.fieldLink RD 18 RD "tos" "[I" ∈ xG := xG_tab 99 (by first | rfl | decide +kernel) rfl
theorem kfD_21 : Cond.fieldLink RD 21 RD "names" "[I" ∈ xG := xG_tab 100 (by first | rfl | decide +kernel) rfl
theorem kfD_24 : Cond.fieldLink RD 24 RD "ways" "[I" ∈ xG := xG_tab 101 (by first | rfl | decide +kernel) rfl
theorem kfD_27 : Cond.fieldLink RD 27 RD "lefts" "[I" ∈ xG := xG_tab 102 (by first | rfl | decide +kernel) rfl
theorem kfD_30 : Cond.fieldLink RD 30 RD "rights" "[I" ∈ xG := xG_tab 103 (by first | rfl | decide +kernel) rfl
theorem kfD_33 : Cond.fieldLink RD 33 RD "numbers" "[I" ∈ xG := xG_tab 104 (by first | rfl | decide +kernel) rfl
theorem kfD_36 : Cond.fieldLink RD 36 RD "order" "[I" ∈ xG := xG_tab 105 (by first | rfl | decide +kernel) rfl
theorem kfX_18 : Cond.fieldLink RX 18 RX "letters" "I" ∈ xG := xG_tab 131 (by first | rfl | decide +kernel) rfl
theorem kfX_25 : Cond.fieldLink RX 25 RX "typed" "LFoldedGroups$Word;" ∈ xG := xG_tab 132 (by first | rfl | decide +kernel) rfl
theorem kfX_31 : Cond.fieldLink RX 31 RX "graphs" "[LFoldedGroups$Graph;" ∈ xG := xG_tab 133 (by first | rfl | decide +kernel) rfl
theorem kfX_39 : Cond.fieldLink RX 39 RX "draft" "LFoldedGroups$Draft;" ∈ xG := xG_tab 134 (by first | rfl | decide +kernel) rfl
theorem klL_21 : Cond.methodLink RL 21 yX_letter ∈ xG := xG_tab 144 (by first | rfl | decide +kernel) rfl
theorem kiX_letter : Cond.instanceMethod yX_letter ∈ xG := xG_tab 145 (by first | rfl | decide +kernel) rfl
theorem keX_letter : Cond.selects RX yX_letter yX_letter ∈ xG := xG_tab 146 (by first | rfl | decide +kernel) rfl
theorem kcX_letter : Cond.code yX_letter cX_letter 2 (some .int) ∈ xG := xG_tab 147 (by first | rfl | decide +kernel) rfl
theorem klX_43 : Cond.methodLink RX 43 yX_isLetter ∈ xG := xG_tab 148 (by first | rfl | decide +kernel) rfl
theorem kiX_isLetter : Cond.instanceMethod yX_isLetter ∈ xG := xG_tab 150 (by first | rfl | decide +kernel) rfl
theorem kcX_isLetter : Cond.code yX_isLetter cX_isLetter 2 (some .boolean) ∈ xG := xG_tab 151 (by first | rfl | decide +kernel) rfl
theorem nlX_47 : Cond.methodLinkNest RX 47 yW_append RX ∈ xNl := xN_tab 152 (by first | rfl | decide +kernel) rfl
theorem kiW_append : Cond.instanceMethod yW_append ∈ xG := xG_tab 154 (by first | rfl | decide +kernel) rfl
theorem kcW_append : Cond.code yW_append cW_append 2 (some .int) ∈ xG := xG_tab 155 (by first | rfl | decide +kernel) rfl
theorem klL_26 : Cond.methodLink RL 26 yX_clear ∈ xG := xG_tab 156 (by first | rfl | decide +kernel) rfl
theorem kiX_clear : Cond.instanceMethod yX_clear ∈ xG := xG_tab 157 (by first | rfl | decide +kernel) rfl
theorem keX_clear : Cond.selects RX yX_clear yX_clear ∈ xG := xG_tab 158 (by first | rfl | decide +kernel) rfl
theorem kcX_clear : Cond.code yX_clear cX_clear 2 (some .int) ∈ xG := xG_tab 159 (by first | rfl | decide +kernel) rfl
theorem klL_31 : Cond.methodLink RL 31 yX_invert ∈ xG := xG_tab 160 (by first | rfl | decide +kernel) rfl
theorem kiX_invert : Cond.instanceMethod yX_invert ∈ xG := xG_tab 161 (by first | rfl | decide +kernel) rfl
theorem keX_invert : Cond.selects RX yX_invert yX_invert ∈ xG := xG_tab 162 (by first | rfl | decide +kernel) rfl
theorem kcX_invert : Cond.code yX_invert cX_invert 1 (some .int) ∈ xG := xG_tab 163 (by first | rfl | decide +kernel) rfl
theorem nlX_54 : Cond.methodLinkNest RX 54 yW_turnRound RX ∈ xNl := xN_tab 164 (by first | rfl | decide +kernel) rfl
theorem kiW_turnRound : Cond.instanceMethod yW_turnRound ∈ xG := xG_tab 166 (by first | rfl | decide +kernel) rfl
theorem kcW_turnRound : Cond.code yW_turnRound cW_turnRound 4 none ∈ xG := xG_tab 167 (by first | rfl | decide +kernel) rfl
theorem klL_35 : Cond.methodLink RL 35 yX_at ∈ xG := xG_tab 168 (by first | rfl | decide +kernel) rfl
theorem kiX_at : Cond.instanceMethod yX_at ∈ xG := xG_tab 169 (by first | rfl | decide +kernel) rfl
theorem keX_at : Cond.selects RX yX_at yX_at ∈ xG := xG_tab 170 (by first | rfl | decide +kernel) rfl
theorem kcX_at : Cond.code yX_at cX_at 2 (some .int) ∈ xG := xG_tab 171 (by first | rfl | decide +kernel) rfl
theorem klL_39 : Cond.methodLink RL 39 yX_take ∈ xG := xG_tab 172 (by first | rfl | decide +kernel) rfl
theorem kiX_take : Cond.instanceMethod yX_take ∈ xG := xG_tab 173 (by first | rfl | decide +kernel) rfl
theorem keX_take : Cond.selects RX yX_take yX_take ∈ xG := xG_tab 174 (by first | rfl | decide +kernel) rfl
theorem kcX_take : Cond.code yX_take cX_take 7 (some .int) ∈ xG := xG_tab 175 (by first | rfl | decide +kernel) rfl
theorem klX_61 : Cond.methodLink RX 61 yX_length ∈ xG := xG_tab 176 (by first | rfl | decide +kernel) rfl
theorem kiX_length : Cond.instanceMethod yX_length ∈ xG := xG_tab 177 (by first | rfl | decide +kernel) rfl
theorem keX_length : Cond.selects RX yX_length yX_length ∈ xG := xG_tab 178 (by first | rfl | decide +kernel) rfl
theorem kcX_length : Cond.code yX_length cX_length 4 (some .int) ∈ xG := xG_tab 179 (by first | rfl | decide +kernel) rfl
theorem klX_70 : Cond.methodLink RX 70 yX_isSubgroup ∈ xG := xG_tab 180 (by first | rfl | decide +kernel) rfl
theorem kiX_isSubgroup : Cond.instanceMethod yX_isSubgroup ∈ xG := xG_tab 182 (by first | rfl | decide +kernel) rfl
theorem kcX_isSubgroup : Cond.code yX_isSubgroup cX_isSubgroup 2 (some .boolean) ∈ xG := xG_tab 183 (by first | rfl | decide +kernel) rfl
theorem nlX_64 : Cond.methodLinkNest RX 64 yG_slotOfElement RX ∈ xNl := xN_tab 184 (by first | rfl | decide +kernel) rfl
theorem kiG_slotOfElement : Cond.instanceMethod yG_slotOfElement ∈ xG := xG_tab 186 (by first | rfl | decide +kernel) rfl
theorem kcG_slotOfElement : Cond.code yG_slotOfElement cG_slotOfElement 3 (some .int) ∈ xG := xG_tab 187 (by first | rfl | decide +kernel) rfl
theorem nlX_120 : Cond.methodLinkNest RX 120 yG_elementSize RX ∈ xNl := xN_tab 188 (by first | rfl | decide +kernel) rfl
theorem kiG_elementSize : Cond.instanceMethod yG_elementSize ∈ xG := xG_tab 190 (by first | rfl | decide +kernel) rfl
theorem kcG_elementSize : Cond.code yG_elementSize cG_elementSize 2 (some .int) ∈ xG := xG_tab 191 (by first | rfl | decide +kernel) rfl
theorem nlX_67 : Cond.methodLinkNest RX 67 yG_elementLetter RX ∈ xNl := xN_tab 192 (by first | rfl | decide +kernel) rfl
theorem kiG_elementLetter : Cond.instanceMethod yG_elementLetter ∈ xG := xG_tab 194 (by first | rfl | decide +kernel) rfl
theorem kcG_elementLetter : Cond.code yG_elementLetter cG_elementLetter 5 (some .int) ∈ xG := xG_tab 195 (by first | rfl | decide +kernel) rfl
theorem klG_53 : Cond.methodLink RG 53 yG_climb ∈ xG := xG_tab 196 (by first | rfl | decide +kernel) rfl
theorem kiG_climb : Cond.instanceMethod yG_climb ∈ xG := xG_tab 198 (by first | rfl | decide +kernel) rfl
theorem kcG_climb : Cond.code yG_climb cG_climb 5 (some .int) ∈ xG := xG_tab 199 (by first | rfl | decide +kernel) rfl
theorem nlG_56 : Cond.methodLinkNest RG 56 yX_letterOf RX ∈ xNl := xN_tab 200 (by first | rfl | decide +kernel) rfl
theorem ksX_letterOf : Cond.static yX_letterOf ∈ xG := xG_tab 201 (by first | rfl | decide +kernel) rfl
theorem kcX_letterOf : Cond.code yX_letterOf cX_letterOf 2 (some .int) ∈ xG := xG_tab 202 (by first | rfl | decide +kernel) rfl
theorem klL_44 : Cond.methodLink RL 44 yX_generate ∈ xG := xG_tab 203 (by first | rfl | decide +kernel) rfl
theorem kiX_generate : Cond.instanceMethod yX_generate ∈ xG := xG_tab 204 (by first | rfl | decide +kernel) rfl
theorem keX_generate : Cond.selects RX yX_generate yX_generate ∈ xG := xG_tab 205 (by first | rfl | decide +kernel) rfl
theorem kcX_generate : Cond.code yX_generate cX_generate 3 (some .int) ∈ xG := xG_tab 206 (by first | rfl | decide +kernel) rfl
theorem nlX_74 : Cond.methodLinkNest RX 74 yD_begin RX ∈ xNl := xN_tab 207 (by first | rfl | decide +kernel) rfl
theorem kiD_begin : Cond.instanceMethod yD_begin ∈ xG := xG_tab 209 (by first | rfl | decide +kernel) rfl
theorem kcD_begin : Cond.code yD_begin cD_begin 1 none ∈ xG := xG_tab 210 (by first | rfl | decide +kernel) rfl
theorem klD_49 : Cond.methodLink RD 49 yJ_fill ∈ xG := xG_tab 211 (by first | rfl | decide +kernel) rfl
theorem nlX_77 : Cond.methodLinkNest RX 77 yD_addCopy RX ∈ xNl := xN_tab 212 (by first | rfl | decide +kernel) rfl
theorem kiD_addCopy : Cond.instanceMethod yD_addCopy ∈ xG := xG_tab 214 (by first | rfl | decide +kernel) rfl
theorem kcD_addCopy : Cond.code yD_addCopy cD_addCopy 6 none ∈ xG := xG_tab 215 (by first | rfl | decide +kernel) rfl
theorem nlD_58 : Cond.methodLinkNest RD 58 yG_way RX ∈ xNl := xN_tab 216 (by first | rfl | decide +kernel) rfl
theorem kiG_way : Cond.instanceMethod yG_way ∈ xG := xG_tab 218 (by first | rfl | decide +kernel) rfl
theorem kcG_way : Cond.code yG_way cG_way 3 (some .int) ∈ xG := xG_tab 219 (by first | rfl | decide +kernel) rfl
theorem klD_62 : Cond.methodLink RD 62 yD_addEdge ∈ xG := xG_tab 220 (by first | rfl | decide +kernel) rfl
theorem kiD_addEdge : Cond.instanceMethod yD_addEdge ∈ xG := xG_tab 222 (by first | rfl | decide +kernel) rfl
theorem kcD_addEdge : Cond.code yD_addEdge cD_addEdge 4 none ∈ xG := xG_tab 223 (by first | rfl | decide +kernel) rfl
theorem nlX_81 : Cond.methodLinkNest RX 81 yD_addRing RX ∈ xNl := xN_tab 224 (by first | rfl | decide +kernel) rfl
theorem kiD_addRing : Cond.instanceMethod yD_addRing ∈ xG := xG_tab 226 (by first | rfl | decide +kernel) rfl
theorem kcD_addRing : Cond.code yD_addRing cD_addRing 3 none ∈ xG := xG_tab 227 (by first | rfl | decide +kernel) rfl
theorem klD_69 : Cond.methodLink RD 69 yD_addRow ∈ xG := xG_tab 228 (by first | rfl | decide +kernel) rfl
theorem kiD_addRow : Cond.instanceMethod yD_addRow ∈ xG := xG_tab 230 (by first | rfl | decide +kernel) rfl
theorem kcD_addRow : Cond.code yD_addRow cD_addRow 5 (some .int) ∈ xG := xG_tab 231 (by first | rfl | decide +kernel) rfl
theorem nlD_76 : Cond.methodLinkNest RD 76 yX_codeOf RX ∈ xNl := xN_tab 232 (by first | rfl | decide +kernel) rfl
theorem ksX_codeOf : Cond.static yX_codeOf ∈ xG := xG_tab 233 (by first | rfl | decide +kernel) rfl
theorem kcX_codeOf : Cond.code yX_codeOf cX_codeOf 1 (some .int) ∈ xG := xG_tab 234 (by first | rfl | decide +kernel) rfl
theorem nlX_85 : Cond.methodLinkNest RX 85 yD_fold RX ∈ xNl := xN_tab 235 (by first | rfl | decide +kernel) rfl
theorem kiD_fold : Cond.instanceMethod yD_fold ∈ xG := xG_tab 237 (by first | rfl | decide +kernel) rfl
theorem kcD_fold : Cond.code yD_fold cD_fold 6 none ∈ xG := xG_tab 238 (by first | rfl | decide +kernel) rfl
theorem klD_80 : Cond.methodLink RD 80 yD_layWay ∈ xG := xG_tab 239 (by first | rfl | decide +kernel) rfl
theorem kiD_layWay : Cond.instanceMethod yD_layWay ∈ xG := xG_tab 241 (by first | rfl | decide +kernel) rfl
theorem kcD_layWay : Cond.code yD_layWay cD_layWay 6 (some .boolean) ∈ xG := xG_tab 242 (by first | rfl | decide +kernel) rfl
theorem klD_84 : Cond.methodLink RD 84 yD_unite ∈ xG := xG_tab 243 (by first | rfl | decide +kernel) rfl
theorem kiD_unite : Cond.instanceMethod yD_unite ∈ xG := xG_tab 245 (by first | rfl | decide +kernel) rfl
theorem kcD_unite : Cond.code yD_unite cD_unite 4 none ∈ xG := xG_tab 246 (by first | rfl | decide +kernel) rfl
theorem nlX_88 : Cond.methodLinkNest RX 88 yD_numberInto RX ∈ xNl := xN_tab 247 (by first | rfl | decide +kernel) rfl
theorem kiD_numberInto : Cond.instanceMethod yD_numberInto ∈ xG := xG_tab 249 (by first | rfl | decide +kernel) rfl
theorem kcD_numberInto : Cond.code yD_numberInto cD_numberInto 5 (some .int) ∈ xG := xG_tab 250 (by first | rfl | decide +kernel) rfl
theorem nlD_98 : Cond.methodLinkNest RD 98 yG_reset RX ∈ xNl := xN_tab 251 (by first | rfl | decide +kernel) rfl
theorem nlD_101 : Cond.methodLinkNest RD 101 yG_growTree RX ∈ xNl := xN_tab 252 (by first | rfl | decide +kernel) rfl
theorem kiG_growTree : Cond.instanceMethod yG_growTree ∈ xG := xG_tab 254 (by first | rfl | decide +kernel) rfl
theorem kcG_growTree : Cond.code yG_growTree cG_growTree 3 none ∈ xG := xG_tab 255 (by first | rfl | decide +kernel) rfl
theorem nlD_105 : Cond.methodLinkNest RD 105 yG_findBasis RX ∈ xNl := xN_tab 256 (by first | rfl | decide +kernel) rfl
theorem kiG_findBasis : Cond.instanceMethod yG_findBasis ∈ xG := xG_tab 258 (by first | rfl | decide +kernel) rfl
theorem kcG_findBasis : Cond.code yG_findBasis cG_findBasis 4 none ∈ xG := xG_tab 259 (by first | rfl | decide +kernel) rfl
theorem klG_49 : Cond.methodLink RG 49 yG_way ∈ xG := xG_tab 260 (by first | rfl | decide +kernel) rfl
theorem klL_48 : Cond.methodLink RL 48 yX_drop ∈ xG := xG_tab 261 (by first | rfl | decide +kernel) rfl
theorem kiX_drop : Cond.instanceMethod yX_drop ∈ xG := xG_tab 262 (by first | rfl | decide +kernel) rfl
theorem keX_drop : Cond.selects RX yX_drop yX_drop ∈ xG := xG_tab 263 (by first | rfl | decide +kernel) rfl
theorem kcX_drop : Cond.code yX_drop cX_drop 3 (some .int) ∈ xG := xG_tab 264 (by first | rfl | decide +kernel) rfl
theorem nlX_92 : Cond.methodLinkNest RX 92 yG_reset RX ∈ xNl := xN_tab 265 (by first | rfl | decide +kernel) rfl
theorem klL_52 : Cond.methodLink RL 52 yX_conjugate ∈ xG := xG_tab 266 (by first | rfl | decide +kernel) rfl
theorem kiX_conjugate : Cond.instanceMethod yX_conjugate ∈ xG := xG_tab 267 (by first | rfl | decide +kernel) rfl
theorem keX_conjugate : Cond.selects RX yX_conjugate yX_conjugate ∈ xG := xG_tab 268 (by first | rfl | decide +kernel) rfl
theorem kcX_conjugate : Cond.code yX_conjugate cX_conjugate 3 (some .int) ∈ xG := xG_tab 269 (by first | rfl | decide +kernel) rfl
theorem nlX_95 : Cond.methodLinkNest RX 95 yD_moveBaseAlong RX ∈ xNl := xN_tab 270 (by first | rfl | decide +kernel) rfl
theorem kiD_moveBaseAlong : Cond.instanceMethod yD_moveBaseAlong ∈ xG := xG_tab 272 (by first | rfl | decide +kernel) rfl
theorem kcD_moveBaseAlong : Cond.code yD_moveBaseAlong cD_moveBaseAlong 2 none ∈ xG := xG_tab 273 (by first | rfl | decide +kernel) rfl
theorem nlX_98 : Cond.methodLinkNest RX 98 yD_trim RX ∈ xNl := xN_tab 274 (by first | rfl | decide +kernel) rfl
theorem kiD_trim : Cond.instanceMethod yD_trim ∈ xG := xG_tab 276 (by first | rfl | decide +kernel) rfl
theorem kcD_trim : Cond.code yD_trim cD_trim 2 none ∈ xG := xG_tab 277 (by first | rfl | decide +kernel) rfl
theorem klD_91 : Cond.methodLink RD 91 yD_trimFrom ∈ xG := xG_tab 278 (by first | rfl | decide +kernel) rfl
theorem kiD_trimFrom : Cond.instanceMethod yD_trimFrom ∈ xG := xG_tab 280 (by first | rfl | decide +kernel) rfl
theorem kcD_trimFrom : Cond.code yD_trimFrom cD_trimFrom 6 none ∈ xG := xG_tab 281 (by first | rfl | decide +kernel) rfl
theorem klD_95 : Cond.methodLink RD 95 yD_onlyWay ∈ xG := xG_tab 282 (by first | rfl | decide +kernel) rfl
theorem kiD_onlyWay : Cond.instanceMethod yD_onlyWay ∈ xG := xG_tab 284 (by first | rfl | decide +kernel) rfl
theorem kcD_onlyWay : Cond.code yD_onlyWay cD_onlyWay 4 (some .int) ∈ xG := xG_tab 285 (by first | rfl | decide +kernel) rfl
theorem klL_56 : Cond.methodLink RL 56 yX_meet ∈ xG := xG_tab 286 (by first | rfl | decide +kernel) rfl
theorem kiX_meet : Cond.instanceMethod yX_meet ∈ xG := xG_tab 287 (by first | rfl | decide +kernel) rfl
theorem keX_meet : Cond.selects RX yX_meet yX_meet ∈ xG := xG_tab 288 (by first | rfl | decide +kernel) rfl
theorem kcX_meet : Cond.code yX_meet cX_meet 4 (some .int) ∈ xG := xG_tab 289 (by first | rfl | decide +kernel) rfl
theorem nlX_101 : Cond.methodLinkNest RX 101 yD_addPairs RX ∈ xNl := xN_tab 290 (by first | rfl | decide +kernel) rfl
theorem kiD_addPairs : Cond.instanceMethod yD_addPairs ∈ xG := xG_tab 292 (by first | rfl | decide +kernel) rfl
theorem kcD_addPairs : Cond.code yD_addPairs cD_addPairs 8 (some .boolean) ∈ xG := xG_tab 293 (by first | rfl | decide +kernel) rfl
theorem klD_88 : Cond.methodLink RD 88 yD_findOrAddPair ∈ xG := xG_tab 294 (by first | rfl | decide +kernel) rfl
theorem kiD_findOrAddPair : Cond.instanceMethod yD_findOrAddPair ∈ xG := xG_tab 296 (by first | rfl | decide +kernel) rfl
theorem kcD_findOrAddPair : Cond.code yD_findOrAddPair cD_findOrAddPair 4 (some .int) ∈ xG := xG_tab 297 (by first | rfl | decide +kernel) rfl
theorem klL_61 : Cond.methodLink RL 61 yX_join ∈ xG := xG_tab 298 (by first | rfl | decide +kernel) rfl
theorem kiX_join : Cond.instanceMethod yX_join ∈ xG := xG_tab 299 (by first | rfl | decide +kernel) rfl
theorem keX_join : Cond.selects RX yX_join yX_join ∈ xG := xG_tab 300 (by first | rfl | decide +kernel) rfl
theorem kcX_join : Cond.code yX_join cX_join 4 (some .int) ∈ xG := xG_tab 301 (by first | rfl | decide +kernel) rfl
theorem klL_65 : Cond.methodLink RL 65 yX_member ∈ xG := xG_tab 302 (by first | rfl | decide +kernel) rfl
theorem kiX_member : Cond.instanceMethod yX_member ∈ xG := xG_tab 303 (by first | rfl | decide +kernel) rfl
theorem keX_member : Cond.selects RX yX_member yX_member ∈ xG := xG_tab 304 (by first | rfl | decide +kernel) rfl
theorem kcX_member : Cond.code yX_member cX_member 2 (some .boolean) ∈ xG := xG_tab 305 (by first | rfl | decide +kernel) rfl
theorem klX_105 : Cond.methodLink RX 105 yX_trace ∈ xG := xG_tab 306 (by first | rfl | decide +kernel) rfl
theorem kiX_trace : Cond.instanceMethod yX_trace ∈ xG := xG_tab 307 (by first | rfl | decide +kernel) rfl
theorem keX_trace : Cond.selects RX yX_trace yX_trace ∈ xG := xG_tab 308 (by first | rfl | decide +kernel) rfl
theorem kcX_trace : Cond.code yX_trace cX_trace 4 (some .int) ∈ xG := xG_tab 309 (by first | rfl | decide +kernel) rfl
theorem klX_108 : Cond.methodLink RX 108 yX_codeOf ∈ xG := xG_tab 310 (by first | rfl | decide +kernel) rfl
theorem nlX_111 : Cond.methodLinkNest RX 111 yG_way RX ∈ xNl := xN_tab 311 (by first | rfl | decide +kernel) rfl
theorem klL_70 : Cond.methodLink RL 70 yX_trace ∈ xG := xG_tab 312 (by first | rfl | decide +kernel) rfl
theorem klL_74 : Cond.methodLink RL 74 yX_written ∈ xG := xG_tab 313 (by first | rfl | decide +kernel) rfl
theorem kiX_written : Cond.instanceMethod yX_written ∈ xG := xG_tab 314 (by first | rfl | decide +kernel) rfl
theorem keX_written : Cond.selects RX yX_written yX_written ∈ xG := xG_tab 315 (by first | rfl | decide +kernel) rfl
theorem kcX_written : Cond.code yX_written cX_written 9 (some .int) ∈ xG := xG_tab 316 (by first | rfl | decide +kernel) rfl
theorem klX_114 : Cond.methodLink RX 114 yX_member ∈ xG := xG_tab 317 (by first | rfl | decide +kernel) rfl
theorem klL_78 : Cond.methodLink RL 78 yX_length ∈ xG := xG_tab 318 (by first | rfl | decide +kernel) rfl
theorem klL_82 : Cond.methodLink RL 82 yX_basis ∈ xG := xG_tab 319 (by first | rfl | decide +kernel) rfl
theorem kiX_basis : Cond.instanceMethod yX_basis ∈ xG := xG_tab 320 (by first | rfl | decide +kernel) rfl
theorem keX_basis : Cond.selects RX yX_basis yX_basis ∈ xG := xG_tab 321 (by first | rfl | decide +kernel) rfl
theorem kcX_basis : Cond.code yX_basis cX_basis 4 (some .int) ∈ xG := xG_tab 322 (by first | rfl | decide +kernel) rfl
theorem klL_86 : Cond.methodLink RL 86 yX_target ∈ xG := xG_tab 323 (by first | rfl | decide +kernel) rfl
theorem kiX_target : Cond.instanceMethod yX_target ∈ xG := xG_tab 324 (by first | rfl | decide +kernel) rfl
theorem keX_target : Cond.selects RX yX_target yX_target ∈ xG := xG_tab 325 (by first | rfl | decide +kernel) rfl
theorem kcX_target : Cond.code yX_target cX_target 4 (some .int) ∈ xG := xG_tab 326 (by first | rfl | decide +kernel) rfl
theorem klL_90 : Cond.methodLink RL 90 yX_figure ∈ xG := xG_tab 327 (by first | rfl | decide +kernel) rfl
theorem kiX_figure : Cond.instanceMethod yX_figure ∈ xG := xG_tab 328 (by first | rfl | decide +kernel) rfl
theorem keX_figure : Cond.selects RX yX_figure yX_figure ∈ xG := xG_tab 329 (by first | rfl | decide +kernel) rfl
theorem kcX_figure : Cond.code yX_figure cX_figure 4 (some .int) ∈ xG := xG_tab 330 (by first | rfl | decide +kernel) rfl
theorem klX_129 : Cond.methodLink RX 129 yX_isComplete ∈ xG := xG_tab 331 (by first | rfl | decide +kernel) rfl
theorem kiX_isComplete : Cond.instanceMethod yX_isComplete ∈ xG := xG_tab 333 (by first | rfl | decide +kernel) rfl
theorem kcX_isComplete : Cond.code yX_isComplete cX_isComplete 2 (some .boolean) ∈ xG := xG_tab 334 (by first | rfl | decide +kernel) rfl
theorem klL_94 : Cond.methodLink RL 94 yX_contains ∈ xG := xG_tab 335 (by first | rfl | decide +kernel) rfl
theorem kiX_contains : Cond.instanceMethod yX_contains ∈ xG := xG_tab 336 (by first | rfl | decide +kernel) rfl
theorem keX_contains : Cond.selects RX yX_contains yX_contains ∈ xG := xG_tab 337 (by first | rfl | decide +kernel) rfl
theorem kcX_contains : Cond.code yX_contains cX_contains 3 (some .boolean) ∈ xG := xG_tab 338 (by first | rfl | decide +kernel) rfl
theorem nlX_133 : Cond.methodLinkNest RX 133 yG_liesUpon RX ∈ xNl := xN_tab 339 (by first | rfl | decide +kernel) rfl
theorem kiG_liesUpon : Cond.instanceMethod yG_liesUpon ∈ xG := xG_tab 341 (by first | rfl | decide +kernel) rfl
theorem kcG_liesUpon : Cond.code yG_liesUpon cG_liesUpon 6 (some .boolean) ∈ xG := xG_tab 342 (by first | rfl | decide +kernel) rfl
theorem klL_99 : Cond.methodLink RL 99 yX_normal ∈ xG := xG_tab 343 (by first | rfl | decide +kernel) rfl
theorem kiX_normal : Cond.instanceMethod yX_normal ∈ xG := xG_tab 344 (by first | rfl | decide +kernel) rfl
theorem keX_normal : Cond.selects RX yX_normal yX_normal ∈ xG := xG_tab 345 (by first | rfl | decide +kernel) rfl
theorem kcX_normal : Cond.code yX_normal cX_normal 4 (some .boolean) ∈ xG := xG_tab 346 (by first | rfl | decide +kernel) rfl
theorem klL_9 : Cond.methodLink RL 9 yL_cell ∈ xG := xG_tab 347 (by first | rfl | decide +kernel) rfl
theorem ksL_cell : Cond.static yL_cell ∈ xG := xG_tab 348 (by first | rfl | decide +kernel) rfl
theorem kcL_cell : Cond.code yL_cell cL_cell 2 (some .int) ∈ xG := xG_tab 349 (by first | rfl | decide +kernel) rfl
theorem kkL_18 : Cond.classLink RL 18 RM ∈ xG := xG_tab 350 (by first | rfl | decide +kernel) rfl
theorem kbM : Cond.instantiable RM 25 ∈ xG := xG_tab 351 (by first | rfl | decide +kernel) rfl
theorem klL_20 : Cond.methodLink RL 20 yM_init ∈ xG := xG_tab 352 (by first | rfl | decide +kernel) rfl
theorem kiM_init : Cond.instanceMethod yM_init ∈ xG := xG_tab 353 (by first | rfl | decide +kernel) rfl
theorem kcM_init : Cond.code yM_init cM_init 3 none ∈ xG := xG_tab 354 (by first | rfl | decide +kernel) rfl
theorem klM_1 : Cond.methodLink RM 1 objectInit ∈ xG := xG_tab 355 (by first | rfl | decide +kernel) rfl
theorem kfM_58 : Cond.fieldLink RM 58 RM "letters" "I" ∈ xG := xG_tab 356 (by first | rfl | decide +kernel) rfl
theorem kfM_66 : Cond.fieldLink RM 66 RM "size" "I" ∈ xG := xG_tab 357 (by first | rfl | decide +kernel) rfl
theorem kfM_7 : Cond.fieldLink RM 7 RM "word" "[I" ∈ xG := xG_tab 358 (by first | rfl | decide +kernel) rfl
theorem kfM_13 : Cond.fieldLink RM 13 RM "vertices" "[I" ∈ xG := xG_tab 359 (by first | rfl | decide +kernel) rfl
theorem kfM_16 : Cond.fieldLink RM 16 RM "ways" "[I" ∈ xG := xG_tab 360 (by first | rfl | decide +kernel) rfl
theorem kfM_19 : Cond.fieldLink RM 19 RM "parents" "[I" ∈ xG := xG_tab 361 (by first | rfl | decide +kernel) rfl
theorem kfM_22 : Cond.fieldLink RM 22 RM "arrivals" "[I" ∈ xG := xG_tab 362 (by first | rfl | decide +kernel) rfl
theorem kfM_25 : Cond.fieldLink RM 25 RM "depths" "[I" ∈ xG := xG_tab 363 (by first | rfl | decide +kernel) rfl
theorem kfM_69 : Cond.fieldLink RM 69 RM "raw" "I" ∈ xG := xG_tab 364 (by first | rfl | decide +kernel) rfl
theorem kfM_72 : Cond.fieldLink RM 72 RM "base" "I" ∈ xG := xG_tab 365 (by first | rfl | decide +kernel) rfl
theorem kfM_75 : Cond.fieldLink RM 75 RM "edges" "I" ∈ xG := xG_tab 366 (by first | rfl | decide +kernel) rfl
theorem kfM_28 : Cond.fieldLink RM 28 RM "from" "[I" ∈ xG := xG_tab 367 (by first | rfl | decide +kernel) rfl
theorem kfM_31 : Cond.fieldLink RM 31 RM "by" "[I" ∈ xG := xG_tab 368 (by first | rfl | decide +kernel) rfl
theorem kfM_34 : Cond.fieldLink RM 34 RM "to" "[I" ∈ xG := xG_tab 369 (by first | rfl | decide +kernel) rfl
theorem kfM_37 : Cond.fieldLink RM 37 RM "same" "[I" ∈ xG := xG_tab 370 (by first | rfl | decide +kernel) rfl
theorem kfM_40 : Cond.fieldLink RM 40 RM "table" "[I" ∈ xG := xG_tab 371 (by first | rfl | decide +kernel) rfl
theorem kfM_43 : Cond.fieldLink RM 43 RM "numbers" "[I" ∈ xG := xG_tab 372 (by first | rfl | decide +kernel) rfl
theorem kfM_46 : Cond.fieldLink RM 46 RM "order" "[I" ∈ xG := xG_tab 373 (by first | rfl | decide +kernel) rfl
theorem kfM_49 : Cond.fieldLink RM 49 RM "left" "[I" ∈ xG := xG_tab 374 (by first | rfl | decide +kernel) rfl
theorem kfM_52 : Cond.fieldLink RM 52 RM "right" "[I" ∈ xG := xG_tab 375 (by first | rfl | decide +kernel) rfl
theorem kfM_137 : Cond.fieldLink RM 137 RM "foundFrom" "I" ∈ xG := xG_tab 376 (by first | rfl | decide +kernel) rfl
theorem kfM_140 : Cond.fieldLink RM 140 RM "foundBy" "I" ∈ xG := xG_tab 377 (by first | rfl | decide +kernel) rfl
theorem kfM_143 : Cond.fieldLink RM 143 RM "foundTo" "I" ∈ xG := xG_tab 378 (by first | rfl | decide +kernel) rfl
theorem kfM_146 : Cond.fieldLink RM 146 RM "many" "I" ∈ xG := xG_tab 379 (by first | rfl | decide +kernel) rfl
theorem kfM_55 : Cond.fieldLink RM 55 RM "row" "[I" ∈ xG := xG_tab 380 (by first | rfl | decide +kernel) rfl
set_option maxRecDepth 20000 in
theorem klL_25 : Cond.methodLink RL 25 yM_letter ∈ xG := xG_tab 432 (by first | rfl | decide +kernel) rfl
set_option maxRecDepth 20000 in
theorem kiM_letter : Cond.instanceMethod yM_letter ∈ xG := xG_tab 433 (by first | rfl | decide +kernel) rfl
set_option maxRecDepth 20000 in
theorem keM_letter : Cond.selects RM yM_letter yM_letter ∈ xG := xG_tab 434 (by first | rfl | decide +kernel) rfl
set_option maxRecDepth 20000 in
theorem kcM_letter : Cond.code yM_letter cM_letter 2 (some .int) ∈ xG := xG_tab 435 (by first | rfl | decide +kernel) rfl
set_option maxRecDepth 20000 in
theorem klM_62 : Cond.methodLink RM 62 yM_isLetter ∈ xG := xG_tab 436 (by first | rfl | decide +kernel) rfl
set_option maxRecDepth 20000 in
theorem kiM_isLetter : Cond.instanceMethod yM_isLetter ∈ xG := xG_tab 438 (by first | rfl | decide +kernel) rfl
set_option maxRecDepth 20000 in
theorem kcM_isLetter : Cond.code yM_isLetter cM_isLetter 2 (some .boolean) ∈ xG := xG_tab 439 (by first | rfl | decide +kernel) rfl
set_option maxRecDepth 20000 in
theorem klL_30 : Cond.methodLink RL 30 yM_clear ∈ xG := xG_tab 440 (by first | rfl | decide +kernel) rfl
set_option maxRecDepth 20000 in
theorem kiM_clear : Cond.instanceMethod yM_clear ∈ xG := xG_tab 441 (by first | rfl | decide +kernel) rfl
set_option maxRecDepth 20000 in
theorem keM_clear : Cond.selects RM yM_clear yM_clear ∈ xG := xG_tab 442 (by first | rfl | decide +kernel) rfl
set_option maxRecDepth 20000 in
theorem kcM_clear : Cond.code yM_clear cM_clear 2 (some .int) ∈ xG := xG_tab 443 (by first | rfl | decide +kernel) rfl
set_option maxRecDepth 20000 in
theorem klL_34 : Cond.methodLink RL 34 yM_invert ∈ xG := xG_tab 444 (by first | rfl | decide +kernel) rfl
set_option maxRecDepth 20000 in
theorem kiM_invert : Cond.instanceMethod yM_invert ∈ xG := xG_tab 445 (by first | rfl | decide +kernel) rfl
set_option maxRecDepth 20000 in
theorem keM_invert : Cond.selects RM yM_invert yM_invert ∈ xG := xG_tab 446 (by first | rfl | decide +kernel) rfl
set_option maxRecDepth 20000 in
theorem kcM_invert : Cond.code yM_invert cM_invert 2 (some .int) ∈ xG := xG_tab 447 (by first | rfl | decide +kernel) rfl
set_option maxRecDepth 20000 in
theorem klL_38 : Cond.methodLink RL 38 yM_at ∈ xG := xG_tab 448 (by first | rfl | decide +kernel) rfl
set_option maxRecDepth 20000 in
theorem kiM_at : Cond.instanceMethod yM_at ∈ xG := xG_tab 449 (by first | rfl | decide +kernel) rfl
set_option maxRecDepth 20000 in
theorem keM_at : Cond.selects RM yM_at yM_at ∈ xG := xG_tab 450 (by first | rfl | decide +kernel) rfl
set_option maxRecDepth 20000 in
theorem kcM_at : Cond.code yM_at cM_at 2 (some .int) ∈ xG := xG_tab 451 (by first | rfl | decide +kernel) rfl
set_option maxRecDepth 20000 in
theorem klL_47 : Cond.methodLink RL 47 yM_generate ∈ xG := xG_tab 452 (by first | rfl | decide +kernel) rfl
set_option maxRecDepth 20000 in
theorem kiM_generate : Cond.instanceMethod yM_generate ∈ xG := xG_tab 453 (by first | rfl | decide +kernel) rfl
set_option maxRecDepth 20000 in
theorem keM_generate : Cond.selects RM yM_generate yM_generate ∈ xG := xG_tab 454 (by first | rfl | decide +kernel) rfl
set_option maxRecDepth 20000 in
theorem kcM_generate : Cond.code yM_generate cM_generate 4 (some .int) ∈ xG := xG_tab 455 (by first | rfl | decide +kernel) rfl
set_option maxRecDepth 20000 in
theorem klM_101 : Cond.methodLink RM 101 yM_isGroup ∈ xG := xG_tab 456 (by first | rfl | decide +kernel) rfl
set_option maxRecDepth 20000 in
theorem ksM_isGroup : Cond.static yM_isGroup ∈ xG := xG_tab 457 (by first | rfl | decide +kernel) rfl
set_option maxRecDepth 20000 in
theorem kcM_isGroup : Cond.code yM_isGroup cM_isGroup 1 (some .boolean) ∈ xG := xG_tab 458 (by first | rfl | decide +kernel) rfl
set_option maxRecDepth 20000 in
theorem klM_104 : Cond.methodLink RM 104 yM_begin ∈ xG := xG_tab 459 (by first | rfl | decide +kernel) rfl
set_option maxRecDepth 20000 in
theorem kiM_begin : Cond.instanceMethod yM_begin ∈ xG := xG_tab 461 (by first | rfl | decide +kernel) rfl
set_option maxRecDepth 20000 in
theorem kcM_begin : Cond.code yM_begin cM_begin 2 none ∈ xG := xG_tab 462 (by first | rfl | decide +kernel) rfl
set_option maxRecDepth 20000 in
theorem klM_108 : Cond.methodLink RM 108 yM_addCopy ∈ xG := xG_tab 463 (by first | rfl | decide +kernel) rfl
set_option maxRecDepth 20000 in
theorem kiM_addCopy : Cond.instanceMethod yM_addCopy ∈ xG := xG_tab 465 (by first | rfl | decide +kernel) rfl
set_option maxRecDepth 20000 in
theorem kcM_addCopy : Cond.code yM_addCopy cM_addCopy 6 none ∈ xG := xG_tab 466 (by first | rfl | decide +kernel) rfl
set_option maxRecDepth 20000 in
theorem klM_78 : Cond.methodLink RM 78 yM_numberOf ∈ xG := xG_tab 467 (by first | rfl | decide +kernel) rfl
set_option maxRecDepth 20000 in
theorem ksM_numberOf : Cond.static yM_numberOf ∈ xG := xG_tab 468 (by first | rfl | decide +kernel) rfl
set_option maxRecDepth 20000 in
theorem kcM_numberOf : Cond.code yM_numberOf cM_numberOf 1 (some .int) ∈ xG := xG_tab 469 (by first | rfl | decide +kernel) rfl
set_option maxRecDepth 20000 in
theorem klM_82 : Cond.methodLink RM 82 yM_way ∈ xG := xG_tab 470 (by first | rfl | decide +kernel) rfl
set_option maxRecDepth 20000 in
theorem kiM_way : Cond.instanceMethod yM_way ∈ xG := xG_tab 472 (by first | rfl | decide +kernel) rfl
set_option maxRecDepth 20000 in
theorem kcM_way : Cond.code yM_way cM_way 4 (some .int) ∈ xG := xG_tab 473 (by first | rfl | decide +kernel) rfl
set_option maxRecDepth 20000 in
theorem klM_86 : Cond.methodLink RM 86 yM_addEdge ∈ xG := xG_tab 474 (by first | rfl | decide +kernel) rfl
set_option maxRecDepth 20000 in
theorem kiM_addEdge : Cond.instanceMethod yM_addEdge ∈ xG := xG_tab 476 (by first | rfl | decide +kernel) rfl
set_option maxRecDepth 20000 in
theorem kcM_addEdge : Cond.code yM_addEdge cM_addEdge 4 none ∈ xG := xG_tab 477 (by first | rfl | decide +kernel) rfl
set_option maxRecDepth 20000 in
theorem klM_111 : Cond.methodLink RM 111 yM_fold ∈ xG := xG_tab 478 (by first | rfl | decide +kernel) rfl
set_option maxRecDepth 20000 in
theorem kiM_fold : Cond.instanceMethod yM_fold ∈ xG := xG_tab 480 (by first | rfl | decide +kernel) rfl
set_option maxRecDepth 20000 in
theorem kcM_fold : Cond.code yM_fold cM_fold 2 none ∈ xG := xG_tab 481 (by first | rfl | decide +kernel) rfl
set_option maxRecDepth 20000 in
theorem klM_94 : Cond.methodLink RM 94 yM_foldOnce ∈ xG := xG_tab 482 (by first | rfl | decide +kernel) rfl
set_option maxRecDepth 20000 in
theorem kiM_foldOnce : Cond.instanceMethod yM_foldOnce ∈ xG := xG_tab 484 (by first | rfl | decide +kernel) rfl
set_option maxRecDepth 20000 in
theorem kcM_foldOnce : Cond.code yM_foldOnce cM_foldOnce 7 (some .boolean) ∈ xG := xG_tab 485 (by first | rfl | decide +kernel) rfl
set_option maxRecDepth 20000 in
theorem klM_90 : Cond.methodLink RM 90 yM_unite ∈ xG := xG_tab 486 (by first | rfl | decide +kernel) rfl
set_option maxRecDepth 20000 in
theorem kiM_unite : Cond.instanceMethod yM_unite ∈ xG := xG_tab 488 (by first | rfl | decide +kernel) rfl
set_option maxRecDepth 20000 in
theorem kcM_unite : Cond.code yM_unite cM_unite 6 none ∈ xG := xG_tab 489 (by first | rfl | decide +kernel) rfl
set_option maxRecDepth 20000 in
theorem klM_114 : Cond.methodLink RM 114 yM_settle ∈ xG := xG_tab 490 (by first | rfl | decide +kernel) rfl
set_option maxRecDepth 20000 in
theorem kiM_settle : Cond.instanceMethod yM_settle ∈ xG := xG_tab 492 (by first | rfl | decide +kernel) rfl
set_option maxRecDepth 20000 in
theorem kcM_settle : Cond.code yM_settle cM_settle 6 (some .int) ∈ xG := xG_tab 493 (by first | rfl | decide +kernel) rfl
set_option maxRecDepth 20000 in
theorem klL_51 : Cond.methodLink RL 51 yM_drop ∈ xG := xG_tab 494 (by first | rfl | decide +kernel) rfl
set_option maxRecDepth 20000 in
theorem kiM_drop : Cond.instanceMethod yM_drop ∈ xG := xG_tab 495 (by first | rfl | decide +kernel) rfl
set_option maxRecDepth 20000 in
theorem keM_drop : Cond.selects RM yM_drop yM_drop ∈ xG := xG_tab 496 (by first | rfl | decide +kernel) rfl
set_option maxRecDepth 20000 in
theorem kcM_drop : Cond.code yM_drop cM_drop 4 (some .int) ∈ xG := xG_tab 497 (by first | rfl | decide +kernel) rfl
set_option maxRecDepth 20000 in
theorem klL_55 : Cond.methodLink RL 55 yM_conjugate ∈ xG := xG_tab 498 (by first | rfl | decide +kernel) rfl
set_option maxRecDepth 20000 in
theorem kiM_conjugate : Cond.instanceMethod yM_conjugate ∈ xG := xG_tab 499 (by first | rfl | decide +kernel) rfl
set_option maxRecDepth 20000 in
theorem keM_conjugate : Cond.selects RM yM_conjugate yM_conjugate ∈ xG := xG_tab 500 (by first | rfl | decide +kernel) rfl
set_option maxRecDepth 20000 in
theorem kcM_conjugate : Cond.code yM_conjugate cM_conjugate 5 (some .int) ∈ xG := xG_tab 501 (by first | rfl | decide +kernel) rfl
set_option maxRecDepth 20000 in
theorem klM_117 : Cond.methodLink RM 117 yM_trim ∈ xG := xG_tab 502 (by first | rfl | decide +kernel) rfl
set_option maxRecDepth 20000 in
theorem kiM_trim : Cond.instanceMethod yM_trim ∈ xG := xG_tab 504 (by first | rfl | decide +kernel) rfl
set_option maxRecDepth 20000 in
theorem kcM_trim : Cond.code yM_trim cM_trim 5 none ∈ xG := xG_tab 505 (by first | rfl | decide +kernel) rfl
set_option maxRecDepth 20000 in
theorem klM_98 : Cond.methodLink RM 98 yM_onlyWay ∈ xG := xG_tab 506 (by first | rfl | decide +kernel) rfl
set_option maxRecDepth 20000 in
theorem kiM_onlyWay : Cond.instanceMethod yM_onlyWay ∈ xG := xG_tab 508 (by first | rfl | decide +kernel) rfl
set_option maxRecDepth 20000 in
theorem kcM_onlyWay : Cond.code yM_onlyWay cM_onlyWay 5 (some .int) ∈ xG := xG_tab 509 (by first | rfl | decide +kernel) rfl
set_option maxRecDepth 20000 in
theorem klL_64 : Cond.methodLink RL 64 yM_join ∈ xG := xG_tab 510 (by first | rfl | decide +kernel) rfl
set_option maxRecDepth 20000 in
theorem kiM_join : Cond.instanceMethod yM_join ∈ xG := xG_tab 511 (by first | rfl | decide +kernel) rfl
set_option maxRecDepth 20000 in
theorem keM_join : Cond.selects RM yM_join yM_join ∈ xG := xG_tab 512 (by first | rfl | decide +kernel) rfl
set_option maxRecDepth 20000 in
theorem kcM_join : Cond.code yM_join cM_join 5 (some .int) ∈ xG := xG_tab 513 (by first | rfl | decide +kernel) rfl
set_option maxRecDepth 20000 in
theorem klL_60 : Cond.methodLink RL 60 yM_meet ∈ xG := xG_tab 514 (by first | rfl | decide +kernel) rfl
set_option maxRecDepth 20000 in
theorem kiM_meet : Cond.instanceMethod yM_meet ∈ xG := xG_tab 515 (by first | rfl | decide +kernel) rfl
set_option maxRecDepth 20000 in
theorem keM_meet : Cond.selects RM yM_meet yM_meet ∈ xG := xG_tab 516 (by first | rfl | decide +kernel) rfl
set_option maxRecDepth 20000 in
theorem kcM_meet : Cond.code yM_meet cM_meet 9 (some .int) ∈ xG := xG_tab 517 (by first | rfl | decide +kernel) rfl
set_option maxRecDepth 20000 in
theorem klM_120 : Cond.methodLink RM 120 yM_pair ∈ xG := xG_tab 518 (by first | rfl | decide +kernel) rfl
set_option maxRecDepth 20000 in
theorem kiM_pair : Cond.instanceMethod yM_pair ∈ xG := xG_tab 520 (by first | rfl | decide +kernel) rfl
set_option maxRecDepth 20000 in
theorem kcM_pair : Cond.code yM_pair cM_pair 4 (some .int) ∈ xG := xG_tab 521 (by first | rfl | decide +kernel) rfl
set_option maxRecDepth 20000 in
theorem klM_124 : Cond.methodLink RM 124 yM_letterOf ∈ xG := xG_tab 522 (by first | rfl | decide +kernel) rfl
set_option maxRecDepth 20000 in
theorem ksM_letterOf : Cond.static yM_letterOf ∈ xG := xG_tab 523 (by first | rfl | decide +kernel) rfl
set_option maxRecDepth 20000 in
theorem kcM_letterOf : Cond.code yM_letterOf cM_letterOf 1 (some .int) ∈ xG := xG_tab 524 (by first | rfl | decide +kernel) rfl
set_option maxRecDepth 20000 in
theorem klL_73 : Cond.methodLink RL 73 yM_trace ∈ xG := xG_tab 525 (by first | rfl | decide +kernel) rfl
set_option maxRecDepth 20000 in
theorem kiM_trace : Cond.instanceMethod yM_trace ∈ xG := xG_tab 526 (by first | rfl | decide +kernel) rfl
set_option maxRecDepth 20000 in
theorem keM_trace : Cond.selects RM yM_trace yM_trace ∈ xG := xG_tab 527 (by first | rfl | decide +kernel) rfl
set_option maxRecDepth 20000 in
theorem kcM_trace : Cond.code yM_trace cM_trace 2 (some .int) ∈ xG := xG_tab 528 (by first | rfl | decide +kernel) rfl
set_option maxRecDepth 20000 in
theorem klM_127 : Cond.methodLink RM 127 yM_walk ∈ xG := xG_tab 529 (by first | rfl | decide +kernel) rfl
set_option maxRecDepth 20000 in
theorem kiM_walk : Cond.instanceMethod yM_walk ∈ xG := xG_tab 531 (by first | rfl | decide +kernel) rfl
set_option maxRecDepth 20000 in
theorem kcM_walk : Cond.code yM_walk cM_walk 4 (some .int) ∈ xG := xG_tab 532 (by first | rfl | decide +kernel) rfl
set_option maxRecDepth 20000 in
theorem klL_69 : Cond.methodLink RL 69 yM_member ∈ xG := xG_tab 533 (by first | rfl | decide +kernel) rfl
set_option maxRecDepth 20000 in
theorem kiM_member : Cond.instanceMethod yM_member ∈ xG := xG_tab 534 (by first | rfl | decide +kernel) rfl
set_option maxRecDepth 20000 in
theorem keM_member : Cond.selects RM yM_member yM_member ∈ xG := xG_tab 535 (by first | rfl | decide +kernel) rfl
set_option maxRecDepth 20000 in
theorem kcM_member : Cond.code yM_member cM_member 2 (some .boolean) ∈ xG := xG_tab 536 (by first | rfl | decide +kernel) rfl
set_option maxRecDepth 20000 in
theorem klL_43 : Cond.methodLink RL 43 yM_take ∈ xG := xG_tab 537 (by first | rfl | decide +kernel) rfl
set_option maxRecDepth 20000 in
theorem kiM_take : Cond.instanceMethod yM_take ∈ xG := xG_tab 538 (by first | rfl | decide +kernel) rfl
set_option maxRecDepth 20000 in
theorem keM_take : Cond.selects RM yM_take yM_take ∈ xG := xG_tab 539 (by first | rfl | decide +kernel) rfl
set_option maxRecDepth 20000 in
theorem kcM_take : Cond.code yM_take cM_take 4 (some .int) ∈ xG := xG_tab 540 (by first | rfl | decide +kernel) rfl
set_option maxRecDepth 20000 in
theorem klM_155 : Cond.methodLink RM 155 yM_find ∈ xG := xG_tab 541 (by first | rfl | decide +kernel) rfl
set_option maxRecDepth 20000 in
theorem kiM_find : Cond.instanceMethod yM_find ∈ xG := xG_tab 543 (by first | rfl | decide +kernel) rfl
set_option maxRecDepth 20000 in
theorem kcM_find : Cond.code yM_find cM_find 7 (some .boolean) ∈ xG := xG_tab 544 (by first | rfl | decide +kernel) rfl
set_option maxRecDepth 20000 in
theorem klM_130 : Cond.methodLink RM 130 yM_isTree ∈ xG := xG_tab 545 (by first | rfl | decide +kernel) rfl
set_option maxRecDepth 20000 in
theorem kiM_isTree : Cond.instanceMethod yM_isTree ∈ xG := xG_tab 547 (by first | rfl | decide +kernel) rfl
set_option maxRecDepth 20000 in
theorem kcM_isTree : Cond.code yM_isTree cM_isTree 6 (some .boolean) ∈ xG := xG_tab 548 (by first | rfl | decide +kernel) rfl
set_option maxRecDepth 20000 in
theorem klM_159 : Cond.methodLink RM 159 yM_putElement ∈ xG := xG_tab 549 (by first | rfl | decide +kernel) rfl
set_option maxRecDepth 20000 in
theorem kiM_putElement : Cond.instanceMethod yM_putElement ∈ xG := xG_tab 551 (by first | rfl | decide +kernel) rfl
set_option maxRecDepth 20000 in
theorem kcM_putElement : Cond.code yM_putElement cM_putElement 3 none ∈ xG := xG_tab 552 (by first | rfl | decide +kernel) rfl
set_option maxRecDepth 20000 in
theorem klM_152 : Cond.methodLink RM 152 yM_putWay ∈ xG := xG_tab 553 (by first | rfl | decide +kernel) rfl
set_option maxRecDepth 20000 in
theorem kiM_putWay : Cond.instanceMethod yM_putWay ∈ xG := xG_tab 555 (by first | rfl | decide +kernel) rfl
set_option maxRecDepth 20000 in
theorem kcM_putWay : Cond.code yM_putWay cM_putWay 5 none ∈ xG := xG_tab 556 (by first | rfl | decide +kernel) rfl
set_option maxRecDepth 20000 in
theorem klM_149 : Cond.methodLink RM 149 yM_put ∈ xG := xG_tab 557 (by first | rfl | decide +kernel) rfl
set_option maxRecDepth 20000 in
theorem kiM_put : Cond.instanceMethod yM_put ∈ xG := xG_tab 559 (by first | rfl | decide +kernel) rfl
set_option maxRecDepth 20000 in
theorem kcM_put : Cond.code yM_put cM_put 2 none ∈ xG := xG_tab 560 (by first | rfl | decide +kernel) rfl
set_option maxRecDepth 20000 in
theorem klL_81 : Cond.methodLink RL 81 yM_length ∈ xG := xG_tab 561 (by first | rfl | decide +kernel) rfl
set_option maxRecDepth 20000 in
theorem kiM_length : Cond.instanceMethod yM_length ∈ xG := xG_tab 562 (by first | rfl | decide +kernel) rfl
set_option maxRecDepth 20000 in
theorem keM_length : Cond.selects RM yM_length yM_length ∈ xG := xG_tab 563 (by first | rfl | decide +kernel) rfl
set_option maxRecDepth 20000 in
theorem kcM_length : Cond.code yM_length cM_length 3 (some .int) ∈ xG := xG_tab 564 (by first | rfl | decide +kernel) rfl
set_option maxRecDepth 20000 in
theorem klL_85 : Cond.methodLink RL 85 yM_basis ∈ xG := xG_tab 565 (by first | rfl | decide +kernel) rfl
set_option maxRecDepth 20000 in
theorem kiM_basis : Cond.instanceMethod yM_basis ∈ xG := xG_tab 566 (by first | rfl | decide +kernel) rfl
set_option maxRecDepth 20000 in
theorem keM_basis : Cond.selects RM yM_basis yM_basis ∈ xG := xG_tab 567 (by first | rfl | decide +kernel) rfl
set_option maxRecDepth 20000 in
theorem kcM_basis : Cond.code yM_basis cM_basis 4 (some .int) ∈ xG := xG_tab 568 (by first | rfl | decide +kernel) rfl
set_option maxRecDepth 20000 in
theorem klL_77 : Cond.methodLink RL 77 yM_written ∈ xG := xG_tab 569 (by first | rfl | decide +kernel) rfl
set_option maxRecDepth 20000 in
theorem kiM_written : Cond.instanceMethod yM_written ∈ xG := xG_tab 570 (by first | rfl | decide +kernel) rfl
set_option maxRecDepth 20000 in
theorem keM_written : Cond.selects RM yM_written yM_written ∈ xG := xG_tab 571 (by first | rfl | decide +kernel) rfl
set_option maxRecDepth 20000 in
theorem kcM_written : Cond.code yM_written cM_written 8 (some .int) ∈ xG := xG_tab 572 (by first | rfl | decide +kernel) rfl
set_option maxRecDepth 20000 in
theorem klM_134 : Cond.methodLink RM 134 yM_elementsBefore ∈ xG := xG_tab 573 (by first | rfl | decide +kernel) rfl
set_option maxRecDepth 20000 in
theorem kiM_elementsBefore : Cond.instanceMethod yM_elementsBefore ∈ xG := xG_tab 575 (by first | rfl | decide +kernel) rfl
set_option maxRecDepth 20000 in
theorem kcM_elementsBefore : Cond.code yM_elementsBefore cM_elementsBefore 8 (some .int) ∈ xG := xG_tab 576 (by first | rfl | decide +kernel) rfl
set_option maxRecDepth 20000 in
theorem klL_89 : Cond.methodLink RL 89 yM_target ∈ xG := xG_tab 577 (by first | rfl | decide +kernel) rfl
set_option maxRecDepth 20000 in
theorem kiM_target : Cond.instanceMethod yM_target ∈ xG := xG_tab 578 (by first | rfl | decide +kernel) rfl
set_option maxRecDepth 20000 in
theorem keM_target : Cond.selects RM yM_target yM_target ∈ xG := xG_tab 579 (by first | rfl | decide +kernel) rfl
set_option maxRecDepth 20000 in
theorem kcM_target : Cond.code yM_target cM_target 4 (some .int) ∈ xG := xG_tab 580 (by first | rfl | decide +kernel) rfl
set_option maxRecDepth 20000 in
theorem klL_93 : Cond.methodLink RL 93 yM_figure ∈ xG := xG_tab 581 (by first | rfl | decide +kernel) rfl
set_option maxRecDepth 20000 in
theorem kiM_figure : Cond.instanceMethod yM_figure ∈ xG := xG_tab 582 (by first | rfl | decide +kernel) rfl
set_option maxRecDepth 20000 in
theorem keM_figure : Cond.selects RM yM_figure yM_figure ∈ xG := xG_tab 583 (by first | rfl | decide +kernel) rfl
set_option maxRecDepth 20000 in
theorem kcM_figure : Cond.code yM_figure cM_figure 6 (some .int) ∈ xG := xG_tab 584 (by first | rfl | decide +kernel) rfl
set_option maxRecDepth 20000 in
theorem klM_162 : Cond.methodLink RM 162 yM_elements ∈ xG := xG_tab 585 (by first | rfl | decide +kernel) rfl
set_option maxRecDepth 20000 in
theorem kiM_elements : Cond.instanceMethod yM_elements ∈ xG := xG_tab 587 (by first | rfl | decide +kernel) rfl
set_option maxRecDepth 20000 in
theorem kcM_elements : Cond.code yM_elements cM_elements 2 (some .int) ∈ xG := xG_tab 588 (by first | rfl | decide +kernel) rfl
set_option maxRecDepth 20000 in
theorem klL_98 : Cond.methodLink RL 98 yM_contains ∈ xG := xG_tab 589 (by first | rfl | decide +kernel) rfl
set_option maxRecDepth 20000 in
theorem kiM_contains : Cond.instanceMethod yM_contains ∈ xG := xG_tab 590 (by first | rfl | decide +kernel) rfl
set_option maxRecDepth 20000 in
theorem keM_contains : Cond.selects RM yM_contains yM_contains ∈ xG := xG_tab 591 (by first | rfl | decide +kernel) rfl
set_option maxRecDepth 20000 in
theorem kcM_contains : Cond.code yM_contains cM_contains 7 (some .boolean) ∈ xG := xG_tab 592 (by first | rfl | decide +kernel) rfl
set_option maxRecDepth 20000 in
theorem klM_165 : Cond.methodLink RM 165 yM_leadsBack ∈ xG := xG_tab 593 (by first | rfl | decide +kernel) rfl
set_option maxRecDepth 20000 in
theorem kiM_leadsBack : Cond.instanceMethod yM_leadsBack ∈ xG := xG_tab 595 (by first | rfl | decide +kernel) rfl
set_option maxRecDepth 20000 in
theorem kcM_leadsBack : Cond.code yM_leadsBack cM_leadsBack 4 (some .boolean) ∈ xG := xG_tab 596 (by first | rfl | decide +kernel) rfl
set_option maxRecDepth 20000 in
theorem klL_102 : Cond.methodLink RL 102 yM_normal ∈ xG := xG_tab 597 (by first | rfl | decide +kernel) rfl
set_option maxRecDepth 20000 in
theorem kiM_normal : Cond.instanceMethod yM_normal ∈ xG := xG_tab 598 (by first | rfl | decide +kernel) rfl
set_option maxRecDepth 20000 in
theorem keM_normal : Cond.selects RM yM_normal yM_normal ∈ xG := xG_tab 599 (by first | rfl | decide +kernel) rfl
set_option maxRecDepth 20000 in
theorem kcM_normal : Cond.code yM_normal cM_normal 7 (some .boolean) ∈ xG := xG_tab 600 (by first | rfl | decide +kernel) rfl
theorem keG_reset : Cond.selects RG yG_reset yG_reset ∈ xG := xG_sel 0 (by first | rfl | decide +kernel) rfl
theorem keX_isLetter : Cond.selects RX yX_isLetter yX_isLetter ∈ xG := xG_sel 1 (by first | rfl | decide +kernel) rfl
theorem keW_append : Cond.selects RW yW_append yW_append ∈ xG := xG_sel 2 (by first | rfl | decide +kernel) rfl
theorem keW_turnRound : Cond.selects RW yW_turnRound yW_turnRound ∈ xG := xG_sel 3 (by first | rfl | decide +kernel) rfl
theorem keX_isSubgroup : Cond.selects RX yX_isSubgroup yX_isSubgroup ∈ xG := xG_sel 4 (by first | rfl | decide +kernel) rfl
theorem keG_slotOfElement : Cond.selects RG yG_slotOfElement yG_slotOfElement ∈ xG := xG_sel 5 (by first | rfl | decide +kernel) rfl
theorem keG_elementSize : Cond.selects RG yG_elementSize yG_elementSize ∈ xG := xG_sel 6 (by first | rfl | decide +kernel) rfl
theorem keG_elementLetter : Cond.selects RG yG_elementLetter yG_elementLetter ∈ xG := xG_sel 7 (by first | rfl | decide +kernel) rfl
theorem keG_climb : Cond.selects RG yG_climb yG_climb ∈ xG := xG_sel 8 (by first | rfl | decide +kernel) rfl
theorem keD_begin : Cond.selects RD yD_begin yD_begin ∈ xG := xG_sel 9 (by first | rfl | decide +kernel) rfl
theorem keD_addCopy : Cond.selects RD yD_addCopy yD_addCopy ∈ xG := xG_sel 10 (by first | rfl | decide +kernel) rfl
theorem keG_way : Cond.selects RG yG_way yG_way ∈ xG := xG_sel 11 (by first | rfl | decide +kernel) rfl
theorem keD_addEdge : Cond.selects RD yD_addEdge yD_addEdge ∈ xG := xG_sel 12 (by first | rfl | decide +kernel) rfl
theorem keD_addRing : Cond.selects RD yD_addRing yD_addRing ∈ xG := xG_sel 13 (by first | rfl | decide +kernel) rfl
theorem keD_addRow : Cond.selects RD yD_addRow yD_addRow ∈ xG := xG_sel 14 (by first | rfl | decide +kernel) rfl
theorem keD_fold : Cond.selects RD yD_fold yD_fold ∈ xG := xG_sel 15 (by first | rfl | decide +kernel) rfl
theorem keD_layWay : Cond.selects RD yD_layWay yD_layWay ∈ xG := xG_sel 16 (by first | rfl | decide +kernel) rfl
theorem keD_unite : Cond.selects RD yD_unite yD_unite ∈ xG := xG_sel 17 (by first | rfl | decide +kernel) rfl
theorem keD_numberInto : Cond.selects RD yD_numberInto yD_numberInto ∈ xG := xG_sel 18 (by first | rfl | decide +kernel) rfl
theorem keG_growTree : Cond.selects RG yG_growTree yG_growTree ∈ xG := xG_sel 19 (by first | rfl | decide +kernel) rfl
theorem keG_findBasis : Cond.selects RG yG_findBasis yG_findBasis ∈ xG := xG_sel 20 (by first | rfl | decide +kernel) rfl
theorem keD_moveBaseAlong : Cond.selects RD yD_moveBaseAlong yD_moveBaseAlong ∈ xG := xG_sel 21 (by first | rfl | decide +kernel) rfl
theorem keD_trim : Cond.selects RD yD_trim yD_trim ∈ xG := xG_sel 22 (by first | rfl | decide +kernel) rfl
theorem keD_trimFrom : Cond.selects RD yD_trimFrom yD_trimFrom ∈ xG := xG_sel 23 (by first | rfl | decide +kernel) rfl
theorem keD_onlyWay : Cond.selects RD yD_onlyWay yD_onlyWay ∈ xG := xG_sel 24 (by first | rfl | decide +kernel) rfl
theorem keD_addPairs : Cond.selects RD yD_addPairs yD_addPairs ∈ xG := xG_sel 25 (by first | rfl | decide +kernel) rfl
theorem keD_findOrAddPair : Cond.selects RD yD_findOrAddPair yD_findOrAddPair ∈ xG := xG_sel 26 (by first | rfl | decide +kernel) rfl
theorem keX_isComplete : Cond.selects RX yX_isComplete yX_isComplete ∈ xG := xG_sel 27 (by first | rfl | decide +kernel) rfl
theorem keG_liesUpon : Cond.selects RG yG_liesUpon yG_liesUpon ∈ xG := xG_sel 28 (by first | rfl | decide +kernel) rfl
theorem keM_isLetter : Cond.selects RM yM_isLetter yM_isLetter ∈ xG := xG_sel 29 (by first | rfl | decide +kernel) rfl
theorem keM_begin : Cond.selects RM yM_begin yM_begin ∈ xG := xG_sel 30 (by first | rfl | decide +kernel) rfl
theorem keM_addCopy : Cond.selects RM yM_addCopy yM_addCopy ∈ xG := xG_sel 31 (by first | rfl | decide +kernel) rfl
theorem keM_way : Cond.selects RM yM_way yM_way ∈ xG := xG_sel 32 (by first | rfl | decide +kernel) rfl
theorem keM_addEdge : Cond.selects RM yM_addEdge yM_addEdge ∈ xG := xG_sel 33 (by first | rfl | decide +kernel) rfl
theorem keM_fold : Cond.selects RM yM_fold yM_fold ∈ xG := xG_sel 34 (by first | rfl | decide +kernel) rfl
theorem keM_foldOnce : Cond.selects RM yM_foldOnce yM_foldOnce ∈ xG := xG_sel 35 (by first | rfl | decide +kernel) rfl
theorem keM_unite : Cond.selects RM yM_unite yM_unite ∈ xG := xG_sel 36 (by first | rfl | decide +kernel) rfl
theorem keM_settle : Cond.selects RM yM_settle yM_settle ∈ xG := xG_sel 37 (by first | rfl | decide +kernel) rfl
theorem keM_trim : Cond.selects RM yM_trim yM_trim ∈ xG := xG_sel 38 (by first | rfl | decide +kernel) rfl
theorem keM_onlyWay : Cond.selects RM yM_onlyWay yM_onlyWay ∈ xG := xG_sel 39 (by first | rfl | decide +kernel) rfl
theorem keM_pair : Cond.selects RM yM_pair yM_pair ∈ xG := xG_sel 40 (by first | rfl | decide +kernel) rfl
theorem keM_walk : Cond.selects RM yM_walk yM_walk ∈ xG := xG_sel 41 (by first | rfl | decide +kernel) rfl
theorem keM_find : Cond.selects RM yM_find yM_find ∈ xG := xG_sel 42 (by first | rfl | decide +kernel) rfl
theorem keM_isTree : Cond.selects RM yM_isTree yM_isTree ∈ xG := xG_sel 43 (by first | rfl | decide +kernel) rfl
theorem keM_putElement : Cond.selects RM yM_putElement yM_putElement ∈ xG := xG_sel 44 (by first | rfl | decide +kernel) rfl
theorem keM_putWay : Cond.selects RM yM_putWay yM_putWay ∈ xG := xG_sel 45 (by first | rfl | decide +kernel) rfl
theorem keM_put : Cond.selects RM yM_put yM_put ∈ xG := xG_sel 46 (by first | rfl | decide +kernel) rfl
theorem keM_elementsBefore : Cond.selects RM yM_elementsBefore yM_elementsBefore ∈ xG := xG_sel 47 (by first | rfl | decide +kernel) rfl
theorem keM_elements : Cond.selects RM yM_elements yM_elements ∈ xG := xG_sel 48 (by first | rfl | decide +kernel) rfl
theorem keM_leadsBack : Cond.selects RM yM_leadsBack yM_leadsBack ∈ xG := xG_sel 49 (by first | rfl | decide +kernel) rfl
