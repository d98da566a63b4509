section
-- ===== PART A: goes FIRST, ahead of the names: the tables' words, and 'selects' of the private methods out of them =====
/-- a private method of a class that the tables say can be made, by its rows of tables_1 -/
def lw_okq (q : MethodName × Nat) : Prop := (q.1.cls ≠ "java/lang/invoke/MethodHandle" ∧ q.1.cls ≠ "java/lang/invoke/VarHandle") ∧ Cond.instantiable q.1.cls q.2 ∈ tables_1 ∧ Cond.privateMethod q.1 ∈ tables_1 ∧ Cond.instanceMethod q.1 ∈ tables_1
theorem lw_p0 : lw_okq (⟨"FoldedGroups$Graph", "reset", "()V"⟩, 9) := ⟨⟨by decide +kernel, by decide +kernel⟩, List.mem_of_getElem? (i := 42) (by decide +kernel), List.mem_of_getElem? (i := 48) (by decide +kernel), List.mem_of_getElem? (i := 49) (by decide +kernel)⟩
theorem lw_p1 : lw_okq (⟨"FoldedGroups", "isLetter", "(I)Z"⟩, 4) := ⟨⟨by decide +kernel, by decide +kernel⟩, List.mem_of_getElem? (i := 9) (by decide +kernel), List.mem_of_getElem? (i := 149) (by decide +kernel), List.mem_of_getElem? (i := 150) (by decide +kernel)⟩
theorem lw_p2 : lw_okq (⟨"FoldedGroups$Word", "append", "(I)I"⟩, 2) := ⟨⟨by decide +kernel, by decide +kernel⟩, List.mem_of_getElem? (i := 23) (by decide +kernel), List.mem_of_getElem? (i := 153) (by decide +kernel), List.mem_of_getElem? (i := 154) (by decide +kernel)⟩
theorem lw_p3 : lw_okq (⟨"FoldedGroups$Word", "turnRound", "()V"⟩, 2) := ⟨⟨by decide +kernel, by decide +kernel⟩, List.mem_of_getElem? (i := 23) (by decide +kernel), List.mem_of_getElem? (i := 165) (by decide +kernel), List.mem_of_getElem? (i := 166) (by decide +kernel)⟩
theorem lw_p4 : lw_okq (⟨"FoldedGroups", "isSubgroup", "(I)Z"⟩, 4) := ⟨⟨by decide +kernel, by decide +kernel⟩, List.mem_of_getElem? (i := 9) (by decide +kernel), List.mem_of_getElem? (i := 181) (by decide +kernel), List.mem_of_getElem? (i := 182) (by decide +kernel)⟩
theorem lw_p5 : lw_okq (⟨"FoldedGroups$Graph", "slotOfElement", "(I)I"⟩, 9) := ⟨⟨by decide +kernel, by decide +kernel⟩, List.mem_of_getElem? (i := 42) (by decide +kernel), List.mem_of_getElem? (i := 185) (by decide +kernel), List.mem_of_getElem? (i := 186) (by decide +kernel)⟩
theorem lw_p6 : lw_okq (⟨"FoldedGroups$Graph", "elementSize", "(I)I"⟩, 9) := ⟨⟨by decide +kernel, by decide +kernel⟩, List.mem_of_getElem? (i := 42) (by decide +kernel), List.mem_of_getElem? (i := 189) (by decide +kernel), List.mem_of_getElem? (i := 190) (by decide +kernel)⟩
theorem lw_p7 : lw_okq (⟨"FoldedGroups$Graph", "elementLetter", "(II)I"⟩, 9) := ⟨⟨by decide +kernel, by decide +kernel⟩, List.mem_of_getElem? (i := 42) (by decide +kernel), List.mem_of_getElem? (i := 193) (by decide +kernel), List.mem_of_getElem? (i := 194) (by decide +kernel)⟩
theorem lw_p8 : lw_okq (⟨"FoldedGroups$Graph", "climb", "(II)I"⟩, 9) := ⟨⟨by decide +kernel, by decide +kernel⟩, List.mem_of_getElem? (i := 42) (by decide +kernel), List.mem_of_getElem? (i := 197) (by decide +kernel), List.mem_of_getElem? (i := 198) (by decide +kernel)⟩
theorem lw_p9 : lw_okq (⟨"FoldedGroups$Draft", "begin", "()V"⟩, 12) := ⟨⟨by decide +kernel, by decide +kernel⟩, List.mem_of_getElem? (i := 89) (by decide +kernel), List.mem_of_getElem? (i := 208) (by decide +kernel), List.mem_of_getElem? (i := 209) (by decide +kernel)⟩
theorem lw_p10 : lw_okq (⟨"FoldedGroups$Draft", "addCopy", "(LFoldedGroups$Graph;)V"⟩, 12) := ⟨⟨by decide +kernel, by decide +kernel⟩, List.mem_of_getElem? (i := 89) (by decide +kernel), List.mem_of_getElem? (i := 213) (by decide +kernel), List.mem_of_getElem? (i := 214) (by decide +kernel)⟩
theorem lw_p11 : lw_okq (⟨"FoldedGroups$Graph", "way", "(II)I"⟩, 9) := ⟨⟨by decide +kernel, by decide +kernel⟩, List.mem_of_getElem? (i := 42) (by decide +kernel), List.mem_of_getElem? (i := 217) (by decide +kernel), List.mem_of_getElem? (i := 218) (by decide +kernel)⟩
theorem lw_p12 : lw_okq (⟨"FoldedGroups$Draft", "addEdge", "(III)V"⟩, 12) := ⟨⟨by decide +kernel, by decide +kernel⟩, List.mem_of_getElem? (i := 89) (by decide +kernel), List.mem_of_getElem? (i := 221) (by decide +kernel), List.mem_of_getElem? (i := 222) (by decide +kernel)⟩
theorem lw_p13 : lw_okq (⟨"FoldedGroups$Draft", "addRing", "(LFoldedGroups$Word;)V"⟩, 12) := ⟨⟨by decide +kernel, by decide +kernel⟩, List.mem_of_getElem? (i := 89) (by decide +kernel), List.mem_of_getElem? (i := 225) (by decide +kernel), List.mem_of_getElem? (i := 226) (by decide +kernel)⟩
theorem lw_p14 : lw_okq (⟨"FoldedGroups$Draft", "addRow", "(LFoldedGroups$Word;I)I"⟩, 12) := ⟨⟨by decide +kernel, by decide +kernel⟩, List.mem_of_getElem? (i := 89) (by decide +kernel), List.mem_of_getElem? (i := 229) (by decide +kernel), List.mem_of_getElem? (i := 230) (by decide +kernel)⟩
theorem lw_p15 : lw_okq (⟨"FoldedGroups$Draft", "fold", "()V"⟩, 12) := ⟨⟨by decide +kernel, by decide +kernel⟩, List.mem_of_getElem? (i := 89) (by decide +kernel), List.mem_of_getElem? (i := 236) (by decide +kernel), List.mem_of_getElem? (i := 237) (by decide +kernel)⟩
def lw_privs_1 : List (MethodName × Nat) := [(⟨"FoldedGroups$Graph", "reset", "()V"⟩, 9), (⟨"FoldedGroups", "isLetter", "(I)Z"⟩, 4), (⟨"FoldedGroups$Word", "append", "(I)I"⟩, 2), (⟨"FoldedGroups$Word", "turnRound", "()V"⟩, 2), (⟨"FoldedGroups", "isSubgroup", "(I)Z"⟩, 4), (⟨"FoldedGroups$Graph", "slotOfElement", "(I)I"⟩, 9), (⟨"FoldedGroups$Graph", "elementSize", "(I)I"⟩, 9), (⟨"FoldedGroups$Graph", "elementLetter", "(II)I"⟩, 9), (⟨"FoldedGroups$Graph", "climb", "(II)I"⟩, 9), (⟨"FoldedGroups$Draft", "begin", "()V"⟩, 12), (⟨"FoldedGroups$Draft", "addCopy", "(LFoldedGroups$Graph;)V"⟩, 12), (⟨"FoldedGroups$Graph", "way", "(II)I"⟩, 9), (⟨"FoldedGroups$Draft", "addEdge", "(III)V"⟩, 12), (⟨"FoldedGroups$Draft", "addRing", "(LFoldedGroups$Word;)V"⟩, 12), (⟨"FoldedGroups$Draft", "addRow", "(LFoldedGroups$Word;I)I"⟩, 12), (⟨"FoldedGroups$Draft", "fold", "()V"⟩, 12)]
theorem lw_r1 : ∀ q ∈ lw_privs_1, lw_okq q := List.forall_mem_cons.mpr ⟨lw_p0, List.forall_mem_cons.mpr ⟨lw_p1, List.forall_mem_cons.mpr ⟨lw_p2, List.forall_mem_cons.mpr ⟨lw_p3, List.forall_mem_cons.mpr ⟨lw_p4, List.forall_mem_cons.mpr ⟨lw_p5, List.forall_mem_cons.mpr ⟨lw_p6, List.forall_mem_cons.mpr ⟨lw_p7, List.forall_mem_cons.mpr ⟨lw_p8, List.forall_mem_cons.mpr ⟨lw_p9, List.forall_mem_cons.mpr ⟨lw_p10, List.forall_mem_cons.mpr ⟨lw_p11, List.forall_mem_cons.mpr ⟨lw_p12, List.forall_mem_cons.mpr ⟨lw_p13, List.forall_mem_cons.mpr ⟨lw_p14, List.forall_mem_cons.mpr ⟨lw_p15, fun _ h => absurd h List.not_mem_nil⟩⟩⟩⟩⟩⟩⟩⟩⟩⟩⟩⟩⟩⟩⟩⟩
theorem lw_p16 : lw_okq (⟨"FoldedGroups$Draft", "layWay", "(III)Z"⟩, 12) := ⟨⟨by decide +kernel, by decide +kernel⟩, List.mem_of_getElem? (i := 89) (by decide +kernel), List.mem_of_getElem? (i := 240) (by decide +kernel), List.mem_of_getElem? (i := 241) (by decide +kernel)⟩
theorem lw_p17 : lw_okq (⟨"FoldedGroups$Draft", "unite", "(II)V"⟩, 12) := ⟨⟨by decide +kernel, by decide +kernel⟩, List.mem_of_getElem? (i := 89) (by decide +kernel), List.mem_of_getElem? (i := 244) (by decide +kernel), List.mem_of_getElem? (i := 245) (by decide +kernel)⟩
theorem lw_p18 : lw_okq (⟨"FoldedGroups$Draft", "numberInto", "(LFoldedGroups$Graph;)I"⟩, 12) := ⟨⟨by decide +kernel, by decide +kernel⟩, List.mem_of_getElem? (i := 89) (by decide +kernel), List.mem_of_getElem? (i := 248) (by decide +kernel), List.mem_of_getElem? (i := 249) (by decide +kernel)⟩
theorem lw_p19 : lw_okq (⟨"FoldedGroups$Graph", "growTree", "(II)V"⟩, 9) := ⟨⟨by decide +kernel, by decide +kernel⟩, List.mem_of_getElem? (i := 42) (by decide +kernel), List.mem_of_getElem? (i := 253) (by decide +kernel), List.mem_of_getElem? (i := 254) (by decide +kernel)⟩
theorem lw_p20 : lw_okq (⟨"FoldedGroups$Graph", "findBasis", "()V"⟩, 9) := ⟨⟨by decide +kernel, by decide +kernel⟩, List.mem_of_getElem? (i := 42) (by decide +kernel), List.mem_of_getElem? (i := 257) (by decide +kernel), List.mem_of_getElem? (i := 258) (by decide +kernel)⟩
theorem lw_p21 : lw_okq (⟨"FoldedGroups$Draft", "moveBaseAlong", "(LFoldedGroups$Word;)V"⟩, 12) := ⟨⟨by decide +kernel, by decide +kernel⟩, List.mem_of_getElem? (i := 89) (by decide +kernel), List.mem_of_getElem? (i := 271) (by decide +kernel), List.mem_of_getElem? (i := 272) (by decide +kernel)⟩
theorem lw_p22 : lw_okq (⟨"FoldedGroups$Draft", "trim", "()V"⟩, 12) := ⟨⟨by decide +kernel, by decide +kernel⟩, List.mem_of_getElem? (i := 89) (by decide +kernel), List.mem_of_getElem? (i := 275) (by decide +kernel), List.mem_of_getElem? (i := 276) (by decide +kernel)⟩
theorem lw_p23 : lw_okq (⟨"FoldedGroups$Draft", "trimFrom", "(I)V"⟩, 12) := ⟨⟨by decide +kernel, by decide +kernel⟩, List.mem_of_getElem? (i := 89) (by decide +kernel), List.mem_of_getElem? (i := 279) (by decide +kernel), List.mem_of_getElem? (i := 280) (by decide +kernel)⟩
theorem lw_p24 : lw_okq (⟨"FoldedGroups$Draft", "onlyWay", "(I)I"⟩, 12) := ⟨⟨by decide +kernel, by decide +kernel⟩, List.mem_of_getElem? (i := 89) (by decide +kernel), List.mem_of_getElem? (i := 283) (by decide +kernel), List.mem_of_getElem? (i := 284) (by decide +kernel)⟩
theorem lw_p25 : lw_okq (⟨"FoldedGroups$Draft", "addPairs", "(LFoldedGroups$Graph;LFoldedGroups$Graph;)Z"⟩, 12) := ⟨⟨by decide +kernel, by decide +kernel⟩, List.mem_of_getElem? (i := 89) (by decide +kernel), List.mem_of_getElem? (i := 291) (by decide +kernel), List.mem_of_getElem? (i := 292) (by decide +kernel)⟩
theorem lw_p26 : lw_okq (⟨"FoldedGroups$Draft", "findOrAddPair", "(II)I"⟩, 12) := ⟨⟨by decide +kernel, by decide +kernel⟩, List.mem_of_getElem? (i := 89) (by decide +kernel), List.mem_of_getElem? (i := 295) (by decide +kernel), List.mem_of_getElem? (i := 296) (by decide +kernel)⟩
theorem lw_p27 : lw_okq (⟨"FoldedGroups", "isComplete", "(LFoldedGroups$Graph;)Z"⟩, 4) := ⟨⟨by decide +kernel, by decide +kernel⟩, List.mem_of_getElem? (i := 9) (by decide +kernel), List.mem_of_getElem? (i := 332) (by decide +kernel), List.mem_of_getElem? (i := 333) (by decide +kernel)⟩
theorem lw_p28 : lw_okq (⟨"FoldedGroups$Graph", "liesUpon", "(LFoldedGroups$Graph;I)Z"⟩, 9) := ⟨⟨by decide +kernel, by decide +kernel⟩, List.mem_of_getElem? (i := 42) (by decide +kernel), List.mem_of_getElem? (i := 340) (by decide +kernel), List.mem_of_getElem? (i := 341) (by decide +kernel)⟩
theorem lw_p29 : lw_okq (⟨"FoldedGroupsModel", "isLetter", "(I)Z"⟩, 25) := ⟨⟨by decide +kernel, by decide +kernel⟩, List.mem_of_getElem? (i := 351) (by decide +kernel), List.mem_of_getElem? (i := 437) (by decide +kernel), List.mem_of_getElem? (i := 438) (by decide +kernel)⟩
theorem lw_p30 : lw_okq (⟨"FoldedGroupsModel", "begin", "(I)V"⟩, 25) := ⟨⟨by decide +kernel, by decide +kernel⟩, List.mem_of_getElem? (i := 351) (by decide +kernel), List.mem_of_getElem? (i := 460) (by decide +kernel), List.mem_of_getElem? (i := 461) (by decide +kernel)⟩
theorem lw_p31 : lw_okq (⟨"FoldedGroupsModel", "addCopy", "(II)V"⟩, 25) := ⟨⟨by decide +kernel, by decide +kernel⟩, List.mem_of_getElem? (i := 351) (by decide +kernel), List.mem_of_getElem? (i := 464) (by decide +kernel), List.mem_of_getElem? (i := 465) (by decide +kernel)⟩
def lw_privs_2 : List (MethodName × Nat) := [(⟨"FoldedGroups$Draft", "layWay", "(III)Z"⟩, 12), (⟨"FoldedGroups$Draft", "unite", "(II)V"⟩, 12), (⟨"FoldedGroups$Draft", "numberInto", "(LFoldedGroups$Graph;)I"⟩, 12), (⟨"FoldedGroups$Graph", "growTree", "(II)V"⟩, 9), (⟨"FoldedGroups$Graph", "findBasis", "()V"⟩, 9), (⟨"FoldedGroups$Draft", "moveBaseAlong", "(LFoldedGroups$Word;)V"⟩, 12), (⟨"FoldedGroups$Draft", "trim", "()V"⟩, 12), (⟨"FoldedGroups$Draft", "trimFrom", "(I)V"⟩, 12), (⟨"FoldedGroups$Draft", "onlyWay", "(I)I"⟩, 12), (⟨"FoldedGroups$Draft", "addPairs", "(LFoldedGroups$Graph;LFoldedGroups$Graph;)Z"⟩, 12), (⟨"FoldedGroups$Draft", "findOrAddPair", "(II)I"⟩, 12), (⟨"FoldedGroups", "isComplete", "(LFoldedGroups$Graph;)Z"⟩, 4), (⟨"FoldedGroups$Graph", "liesUpon", "(LFoldedGroups$Graph;I)Z"⟩, 9), (⟨"FoldedGroupsModel", "isLetter", "(I)Z"⟩, 25), (⟨"FoldedGroupsModel", "begin", "(I)V"⟩, 25), (⟨"FoldedGroupsModel", "addCopy", "(II)V"⟩, 25)]
theorem lw_r2 : ∀ q ∈ lw_privs_2, lw_okq q := List.forall_mem_cons.mpr ⟨lw_p16, List.forall_mem_cons.mpr ⟨lw_p17, List.forall_mem_cons.mpr ⟨lw_p18, List.forall_mem_cons.mpr ⟨lw_p19, List.forall_mem_cons.mpr ⟨lw_p20, List.forall_mem_cons.mpr ⟨lw_p21, List.forall_mem_cons.mpr ⟨lw_p22, List.forall_mem_cons.mpr ⟨lw_p23, List.forall_mem_cons.mpr ⟨lw_p24, List.forall_mem_cons.mpr ⟨lw_p25, List.forall_mem_cons.mpr ⟨lw_p26, List.forall_mem_cons.mpr ⟨lw_p27, List.forall_mem_cons.mpr ⟨lw_p28, List.forall_mem_cons.mpr ⟨lw_p29, List.forall_mem_cons.mpr ⟨lw_p30, List.forall_mem_cons.mpr ⟨lw_p31, fun _ h => absurd h List.not_mem_nil⟩⟩⟩⟩⟩⟩⟩⟩⟩⟩⟩⟩⟩⟩⟩⟩
theorem lw_p32 : lw_okq (⟨"FoldedGroupsModel", "way", "(III)I"⟩, 25) := ⟨⟨by decide +kernel, by decide +kernel⟩, List.mem_of_getElem? (i := 351) (by decide +kernel), List.mem_of_getElem? (i := 471) (by decide +kernel), List.mem_of_getElem? (i := 472) (by decide +kernel)⟩
theorem lw_p33 : lw_okq (⟨"FoldedGroupsModel", "addEdge", "(III)V"⟩, 25) := ⟨⟨by decide +kernel, by decide +kernel⟩, List.mem_of_getElem? (i := 351) (by decide +kernel), List.mem_of_getElem? (i := 475) (by decide +kernel), List.mem_of_getElem? (i := 476) (by decide +kernel)⟩
theorem lw_p34 : lw_okq (⟨"FoldedGroupsModel", "fold", "()V"⟩, 25) := ⟨⟨by decide +kernel, by decide +kernel⟩, List.mem_of_getElem? (i := 351) (by decide +kernel), List.mem_of_getElem? (i := 479) (by decide +kernel), List.mem_of_getElem? (i := 480) (by decide +kernel)⟩
theorem lw_p35 : lw_okq (⟨"FoldedGroupsModel", "foldOnce", "()Z"⟩, 25) := ⟨⟨by decide +kernel, by decide +kernel⟩, List.mem_of_getElem? (i := 351) (by decide +kernel), List.mem_of_getElem? (i := 483) (by decide +kernel), List.mem_of_getElem? (i := 484) (by decide +kernel)⟩
theorem lw_p36 : lw_okq (⟨"FoldedGroupsModel", "unite", "(II)V"⟩, 25) := ⟨⟨by decide +kernel, by decide +kernel⟩, List.mem_of_getElem? (i := 351) (by decide +kernel), List.mem_of_getElem? (i := 487) (by decide +kernel), List.mem_of_getElem? (i := 488) (by decide +kernel)⟩
theorem lw_p37 : lw_okq (⟨"FoldedGroupsModel", "settle", "(I)I"⟩, 25) := ⟨⟨by decide +kernel, by decide +kernel⟩, List.mem_of_getElem? (i := 351) (by decide +kernel), List.mem_of_getElem? (i := 491) (by decide +kernel), List.mem_of_getElem? (i := 492) (by decide +kernel)⟩
theorem lw_p38 : lw_okq (⟨"FoldedGroupsModel", "trim", "()V"⟩, 25) := ⟨⟨by decide +kernel, by decide +kernel⟩, List.mem_of_getElem? (i := 351) (by decide +kernel), List.mem_of_getElem? (i := 503) (by decide +kernel), List.mem_of_getElem? (i := 504) (by decide +kernel)⟩
theorem lw_p39 : lw_okq (⟨"FoldedGroupsModel", "onlyWay", "(I)I"⟩, 25) := ⟨⟨by decide +kernel, by decide +kernel⟩, List.mem_of_getElem? (i := 351) (by decide +kernel), List.mem_of_getElem? (i := 507) (by decide +kernel), List.mem_of_getElem? (i := 508) (by decide +kernel)⟩
theorem lw_p40 : lw_okq (⟨"FoldedGroupsModel", "pair", "(II)I"⟩, 25) := ⟨⟨by decide +kernel, by decide +kernel⟩, List.mem_of_getElem? (i := 351) (by decide +kernel), List.mem_of_getElem? (i := 519) (by decide +kernel), List.mem_of_getElem? (i := 520) (by decide +kernel)⟩
theorem lw_p41 : lw_okq (⟨"FoldedGroupsModel", "walk", "(I)I"⟩, 25) := ⟨⟨by decide +kernel, by decide +kernel⟩, List.mem_of_getElem? (i := 351) (by decide +kernel), List.mem_of_getElem? (i := 530) (by decide +kernel), List.mem_of_getElem? (i := 531) (by decide +kernel)⟩
theorem lw_p42 : lw_okq (⟨"FoldedGroupsModel", "find", "(II)Z"⟩, 25) := ⟨⟨by decide +kernel, by decide +kernel⟩, List.mem_of_getElem? (i := 351) (by decide +kernel), List.mem_of_getElem? (i := 542) (by decide +kernel), List.mem_of_getElem? (i := 543) (by decide +kernel)⟩
theorem lw_p43 : lw_okq (⟨"FoldedGroupsModel", "isTree", "(IIII)Z"⟩, 25) := ⟨⟨by decide +kernel, by decide +kernel⟩, List.mem_of_getElem? (i := 351) (by decide +kernel), List.mem_of_getElem? (i := 546) (by decide +kernel), List.mem_of_getElem? (i := 547) (by decide +kernel)⟩
theorem lw_p44 : lw_okq (⟨"FoldedGroupsModel", "putElement", "(I)V"⟩, 25) := ⟨⟨by decide +kernel, by decide +kernel⟩, List.mem_of_getElem? (i := 351) (by decide +kernel), List.mem_of_getElem? (i := 550) (by decide +kernel), List.mem_of_getElem? (i := 551) (by decide +kernel)⟩
theorem lw_p45 : lw_okq (⟨"FoldedGroupsModel", "putWay", "(II)V"⟩, 25) := ⟨⟨by decide +kernel, by decide +kernel⟩, List.mem_of_getElem? (i := 351) (by decide +kernel), List.mem_of_getElem? (i := 554) (by decide +kernel), List.mem_of_getElem? (i := 555) (by decide +kernel)⟩
theorem lw_p46 : lw_okq (⟨"FoldedGroupsModel", "put", "(I)V"⟩, 25) := ⟨⟨by decide +kernel, by decide +kernel⟩, List.mem_of_getElem? (i := 351) (by decide +kernel), List.mem_of_getElem? (i := 558) (by decide +kernel), List.mem_of_getElem? (i := 559) (by decide +kernel)⟩
theorem lw_p47 : lw_okq (⟨"FoldedGroupsModel", "elementsBefore", "(III)I"⟩, 25) := ⟨⟨by decide +kernel, by decide +kernel⟩, List.mem_of_getElem? (i := 351) (by decide +kernel), List.mem_of_getElem? (i := 574) (by decide +kernel), List.mem_of_getElem? (i := 575) (by decide +kernel)⟩
def lw_privs_3 : List (MethodName × Nat) := [(⟨"FoldedGroupsModel", "way", "(III)I"⟩, 25), (⟨"FoldedGroupsModel", "addEdge", "(III)V"⟩, 25), (⟨"FoldedGroupsModel", "fold", "()V"⟩, 25), (⟨"FoldedGroupsModel", "foldOnce", "()Z"⟩, 25), (⟨"FoldedGroupsModel", "unite", "(II)V"⟩, 25), (⟨"FoldedGroupsModel", "settle", "(I)I"⟩, 25), (⟨"FoldedGroupsModel", "trim", "()V"⟩, 25), (⟨"FoldedGroupsModel", "onlyWay", "(I)I"⟩, 25), (⟨"FoldedGroupsModel", "pair", "(II)I"⟩, 25), (⟨"FoldedGroupsModel", "walk", "(I)I"⟩, 25), (⟨"FoldedGroupsModel", "find", "(II)Z"⟩, 25), (⟨"FoldedGroupsModel", "isTree", "(IIII)Z"⟩, 25), (⟨"FoldedGroupsModel", "putElement", "(I)V"⟩, 25), (⟨"FoldedGroupsModel", "putWay", "(II)V"⟩, 25), (⟨"FoldedGroupsModel", "put", "(I)V"⟩, 25), (⟨"FoldedGroupsModel", "elementsBefore", "(III)I"⟩, 25)]
theorem lw_r3 : ∀ q ∈ lw_privs_3, lw_okq q := List.forall_mem_cons.mpr ⟨lw_p32, List.forall_mem_cons.mpr ⟨lw_p33, List.forall_mem_cons.mpr ⟨lw_p34, List.forall_mem_cons.mpr ⟨lw_p35, List.forall_mem_cons.mpr ⟨lw_p36, List.forall_mem_cons.mpr ⟨lw_p37, List.forall_mem_cons.mpr ⟨lw_p38, List.forall_mem_cons.mpr ⟨lw_p39, List.forall_mem_cons.mpr ⟨lw_p40, List.forall_mem_cons.mpr ⟨lw_p41, List.forall_mem_cons.mpr ⟨lw_p42, List.forall_mem_cons.mpr ⟨lw_p43, List.forall_mem_cons.mpr ⟨lw_p44, List.forall_mem_cons.mpr ⟨lw_p45, List.forall_mem_cons.mpr ⟨lw_p46, List.forall_mem_cons.mpr ⟨lw_p47, fun _ h => absurd h List.not_mem_nil⟩⟩⟩⟩⟩⟩⟩⟩⟩⟩⟩⟩⟩⟩⟩⟩
theorem lw_p48 : lw_okq (⟨"FoldedGroupsModel", "elements", "(I)I"⟩, 25) := ⟨⟨by decide +kernel, by decide +kernel⟩, List.mem_of_getElem? (i := 351) (by decide +kernel), List.mem_of_getElem? (i := 586) (by decide +kernel), List.mem_of_getElem? (i := 587) (by decide +kernel)⟩
theorem lw_p49 : lw_okq (⟨"FoldedGroupsModel", "leadsBack", "(I)Z"⟩, 25) := ⟨⟨by decide +kernel, by decide +kernel⟩, List.mem_of_getElem? (i := 351) (by decide +kernel), List.mem_of_getElem? (i := 594) (by decide +kernel), List.mem_of_getElem? (i := 595) (by decide +kernel)⟩
def lw_privs_4 : List (MethodName × Nat) := [(⟨"FoldedGroupsModel", "elements", "(I)I"⟩, 25), (⟨"FoldedGroupsModel", "leadsBack", "(I)Z"⟩, 25)]
theorem lw_r4 : ∀ q ∈ lw_privs_4, lw_okq q := List.forall_mem_cons.mpr ⟨lw_p48, List.forall_mem_cons.mpr ⟨lw_p49, fun _ h => absurd h List.not_mem_nil⟩⟩
def lw_privs : List (MethodName × Nat) := lw_privs_1 ++ (lw_privs_2 ++ (lw_privs_3 ++ (lw_privs_4)))
def lw_tbl : List Cond := k2_sels lw_privs ++ tables_1
theorem lw_privs_ok : ∀ q ∈ lw_privs, lw_okq q := by
  show ∀ q ∈ lw_privs_1 ++ (lw_privs_2 ++ (lw_privs_3 ++ (lw_privs_4))), lw_okq q
  exact List.forall_mem_append.mpr ⟨lw_r1, List.forall_mem_append.mpr ⟨lw_r2, List.forall_mem_append.mpr ⟨lw_r3, lw_r4⟩⟩⟩
def xG : List Cond := lw_tbl.filter goodWord
theorem xG_mem {w : Cond} (h : w ∈ lw_tbl) (hg : goodWord w = true) : w ∈ xG := List.mem_filter.mpr ⟨h, hg⟩
theorem xG_tab {w : Cond} (i : Nat) (h : tables_1[i]? = some w) (hg : goodWord w = true) : w ∈ xG := xG_mem (List.mem_append_right _ (List.mem_of_getElem? h)) hg
theorem xG_sel {w : Cond} (i : Nat) (h : (k2_sels lw_privs)[i]? = some w) (hg : goodWord w = true) : w ∈ xG := xG_mem (List.mem_append_left _ (List.mem_of_getElem? h)) hg
theorem xG_good {y : MethodName} {c : ByteArray} {n : Nat} {ret : Option FieldType} {w0 : Cond} (h : Cond.code y c n ret ∈ xG) : GoodIn (w0 :: xG) (Cond.code y c n ret :: xG) := by
  intro w hw
  have hw' : w ∈ xG := by
    rcases List.mem_cons.mp hw with rfl | q
    · exact h
    · exact q
  exact ⟨List.mem_cons_of_mem _ hw', good_of_word (List.mem_filter.mp hw').2⟩
def xIsN : Cond → Bool
  | .methodLinkNest .. => true
  | .fieldLinkNest .. => true
  | _ => false
def xNl : List Cond := lw_tbl.filter xIsN
theorem xN_tab {w : Cond} (i : Nat) (h : tables_1[i]? = some w) (hg : xIsN w = true) : w ∈ xNl := List.mem_filter.mpr ⟨List.mem_append_right _ (List.mem_of_getElem? h), hg⟩
def xN (S : State) : Prop := (∀ w ∈ xNl, va_Nw w S) ∧ va_AO "FoldedGroups$Graph" S
theorem xN_warm {s U : State} (hW : s.WarmedH U.vm) (h : xN s) : xN U := by
  refine ⟨?_, va_AO.moved hW.alike h.2⟩
  intro w hw
  have h1 := h.1 w hw
  have h2 := (List.mem_filter.mp hw).2
  cases w <;> first | exact va_Nw.warmM hW h1 | exact va_Nw.warmF hW h1 | (simp [xIsN] at h2)
theorem xN_on {w : Cond} (h : xIsN w = true) : w.onTables = true := by
  cases w <;> first | rfl | (simp [xIsN] at h)
theorem xN_same {u U : State} (h : u.vm = U.vm) (hN : xN u) : xN U := ⟨fun w hw => va_Nw.same (xN_on (List.mem_filter.mp hw).2) h (hN.1 w hw), va_AO.moved (by rw [h]; exact Vm.Alike.refl _) hN.2⟩
theorem xN_of {A : Array Value} {U : State} (h : ∀ w ∈ lw_tbl, w.before A U = true) : xN U := ⟨fun w hw => va_Nw.of (xN_on (List.mem_filter.mp hw).2) (h w (List.mem_filter.mp hw).1), va_AO.of (h _ (List.mem_append_right _ (List.mem_of_getElem? (l := tables_1) (i := 41) (by decide +kernel))))⟩
def RD : String := "FoldedGroups$Draft"
def TD : u_T := fun k => match k with
  | 0 => ("FoldedGroups$Draft", "size", "I", false)
  | 1 => ("FoldedGroups$Draft", "base", "I", false)
  | 2 => ("FoldedGroups$Draft", "edges", "I", false)
  | 3 => ("FoldedGroups$Draft", "froms", "[I", true)
  | 4 => ("FoldedGroups$Draft", "codes", "[I", true)
  | 5 => ("FoldedGroups$Draft", "tos", "[I", true)
  | 6 => ("FoldedGroups$Draft", "names", "[I", true)
  | 7 => ("FoldedGroups$Draft", "ways", "[I", true)
  | 8 => ("FoldedGroups$Draft", "lefts", "[I", true)
  | 9 => ("FoldedGroups$Draft", "rights", "[I", true)
  | 10 => ("FoldedGroups$Draft", "numbers", "[I", true)
  | _ => ("FoldedGroups$Draft", "order", "[I", true)
def tyD : Nat → FieldType := fun k => match k with
  | 0 => .int
  | 1 => .int
  | 2 => .int
  | 3 => .array .int
  | 4 => .array .int
  | 5 => .array .int
  | 6 => .array .int
  | 7 => .array .int
  | 8 => .array .int
  | 9 => .array .int
  | 10 => .array .int
  | _ => .array .int
theorem nmD : ∀ a, a < 12 → ∀ b, b < 12 → a ≠ b → (TD a).2.1 ≠ (TD b).2.1 := by decide +kernel
theorem tkD : ∀ k, k < 12 → parseFieldDescriptor (TD k).2.2.1 = some (tyD k) := by decide +kernel
theorem inD : ∀ w ∈ u_ws RD TD 12, w ∈ xG := by
  intro w hw
  obtain ⟨k, hk, rfl⟩ := List.mem_map.mp hw
  have hk := List.mem_range.mp hk
  match k, hk with
  | 0, _ => exact xG_tab 106 (by decide +kernel) rfl
  | 1, _ => exact xG_tab 108 (by decide +kernel) rfl
  | 2, _ => exact xG_tab 110 (by decide +kernel) rfl
  | 3, _ => exact xG_tab 112 (by decide +kernel) rfl
  | 4, _ => exact xG_tab 114 (by decide +kernel) rfl
  | 5, _ => exact xG_tab 116 (by decide +kernel) rfl
  | 6, _ => exact xG_tab 118 (by decide +kernel) rfl
  | 7, _ => exact xG_tab 120 (by decide +kernel) rfl
  | 8, _ => exact xG_tab 122 (by decide +kernel) rfl
  | 9, _ => exact xG_tab 124 (by decide +kernel) rfl
  | 10, _ => exact xG_tab 126 (by decide +kernel) rfl
  | 11, _ => exact xG_tab 128 (by decide +kernel) rfl
  | (q + 12), h => exact absurd h (by omega)
theorem jnD (w0 : Cond) : ∀ w ∈ u_ws RD TD 12, w ∈ w0 :: xG := fun w h => List.mem_cons_of_mem _ (inD w h)
def RG : String := "FoldedGroups$Graph"
def TG : u_T := fun k => match k with
  | 0 => ("FoldedGroups$Graph", "size", "I", false)
  | 1 => ("FoldedGroups$Graph", "edges", "I", false)
  | 2 => ("FoldedGroups$Graph", "rank", "I", false)
  | 3 => ("FoldedGroups$Graph", "ways", "[I", true)
  | 4 => ("FoldedGroups$Graph", "items", "[I", true)
  | 5 => ("FoldedGroups$Graph", "parents", "[I", true)
  | 6 => ("FoldedGroups$Graph", "codes", "[I", true)
  | 7 => ("FoldedGroups$Graph", "depths", "[I", true)
  | _ => ("FoldedGroups$Graph", "images", "[I", true)
def tyG : Nat → FieldType := fun k => match k with
  | 0 => .int
  | 1 => .int
  | 2 => .int
  | 3 => .array .int
  | 4 => .array .int
  | 5 => .array .int
  | 6 => .array .int
  | 7 => .array .int
  | _ => .array .int
theorem nmG : ∀ a, a < 9 → ∀ b, b < 9 → a ≠ b → (TG a).2.1 ≠ (TG b).2.1 := by decide +kernel
theorem tkG : ∀ k, k < 9 → parseFieldDescriptor (TG k).2.2.1 = some (tyG k) := by decide +kernel
theorem inG : ∀ w ∈ u_ws RG TG 9, w ∈ xG := by
  intro w hw
  obtain ⟨k, hk, rfl⟩ := List.mem_map.mp hw
  have hk := List.mem_range.mp hk
  match k, hk with
  | 0, _ => exact xG_tab 69 (by decide +kernel) rfl
  | 1, _ => exact xG_tab 71 (by decide +kernel) rfl
  | 2, _ => exact xG_tab 73 (by decide +kernel) rfl
  | 3, _ => exact xG_tab 75 (by decide +kernel) rfl
  | 4, _ => exact xG_tab 77 (by decide +kernel) rfl
  | 5, _ => exact xG_tab 79 (by decide +kernel) rfl
  | 6, _ => exact xG_tab 81 (by decide +kernel) rfl
  | 7, _ => exact xG_tab 83 (by decide +kernel) rfl
  | 8, _ => exact xG_tab 85 (by decide +kernel) rfl
  | (q + 9), h => exact absurd h (by omega)
theorem jnG (w0 : Cond) : ∀ w ∈ u_ws RG TG 9, w ∈ w0 :: xG := fun w h => List.mem_cons_of_mem _ (inG w h)
def RW : String := "FoldedGroups$Word"
def TW : u_T := fun k => match k with
  | 0 => ("FoldedGroups$Word", "row", "[I", true)
  | _ => ("FoldedGroups$Word", "size", "I", false)
def tyW : Nat → FieldType := fun k => match k with
  | 0 => .array .int
  | _ => .int
theorem nmW : ∀ a, a < 2 → ∀ b, b < 2 → a ≠ b → (TW a).2.1 ≠ (TW b).2.1 := by decide +kernel
theorem tkW : ∀ k, k < 2 → parseFieldDescriptor (TW k).2.2.1 = some (tyW k) := by decide +kernel
theorem inW : ∀ w ∈ u_ws RW TW 2, w ∈ xG := by
  intro w hw
  obtain ⟨k, hk, rfl⟩ := List.mem_map.mp hw
  have hk := List.mem_range.mp hk
  match k, hk with
  | 0, _ => exact xG_tab 34 (by decide +kernel) rfl
  | 1, _ => exact xG_tab 36 (by decide +kernel) rfl
  | (q + 2), h => exact absurd h (by omega)
theorem jnW (w0 : Cond) : ∀ w ∈ u_ws RW TW 2, w ∈ w0 :: xG := fun w h => List.mem_cons_of_mem _ (inW w h)
def RX : String := "FoldedGroups"
def TX : u_T := fun k => match k with
  | 0 => ("FoldedGroups", "letters", "I", true)
  | 1 => ("FoldedGroups", "typed", "LFoldedGroups$Word;", true)
  | 2 => ("FoldedGroups", "graphs", "[LFoldedGroups$Graph;", true)
  | _ => ("FoldedGroups", "draft", "LFoldedGroups$Draft;", true)
def tyX : Nat → FieldType := fun k => match k with
  | 0 => .int
  | 1 => .object "FoldedGroups$Word"
  | 2 => .array (.object "FoldedGroups$Graph")
  | _ => .object "FoldedGroups$Draft"
theorem nmX : ∀ a, a < 4 → ∀ b, b < 4 → a ≠ b → (TX a).2.1 ≠ (TX b).2.1 := by decide +kernel
theorem tkX : ∀ k, k < 4 → parseFieldDescriptor (TX k).2.2.1 = some (tyX k) := by decide +kernel
theorem inX : ∀ w ∈ u_ws RX TX 4, w ∈ xG := by
  intro w hw
  obtain ⟨k, hk, rfl⟩ := List.mem_map.mp hw
  have hk := List.mem_range.mp hk
  match k, hk with
  | 0, _ => exact xG_tab 135 (by decide +kernel) rfl
  | 1, _ => exact xG_tab 137 (by decide +kernel) rfl
  | 2, _ => exact xG_tab 139 (by decide +kernel) rfl
  | 3, _ => exact xG_tab 141 (by decide +kernel) rfl
  | (q + 4), h => exact absurd h (by omega)
theorem jnX (w0 : Cond) : ∀ w ∈ u_ws RX TX 4, w ∈ w0 :: xG := fun w h => List.mem_cons_of_mem _ (inX w h)
def RM : String := "FoldedGroupsModel"
def TM : u_T := fun k => match k with
  | 0 => ("FoldedGroupsModel", "letters", "I", true)
  | 1 => ("FoldedGroupsModel", "size", "I", false)
  | 2 => ("FoldedGroupsModel", "word", "[I", true)
  | 3 => ("FoldedGroupsModel", "vertices", "[I", true)
  | 4 => ("FoldedGroupsModel", "ways", "[I", true)
  | 5 => ("FoldedGroupsModel", "parents", "[I", true)
  | 6 => ("FoldedGroupsModel", "arrivals", "[I", true)
  | 7 => ("FoldedGroupsModel", "depths", "[I", true)
  | 8 => ("FoldedGroupsModel", "raw", "I", false)
  | 9 => ("FoldedGroupsModel", "base", "I", false)
  | 10 => ("FoldedGroupsModel", "edges", "I", false)
  | 11 => ("FoldedGroupsModel", "from", "[I", true)
  | 12 => ("FoldedGroupsModel", "by", "[I", true)
  | 13 => ("FoldedGroupsModel", "to", "[I", true)
  | 14 => ("FoldedGroupsModel", "same", "[I", true)
  | 15 => ("FoldedGroupsModel", "table", "[I", true)
  | 16 => ("FoldedGroupsModel", "numbers", "[I", true)
  | 17 => ("FoldedGroupsModel", "order", "[I", true)
  | 18 => ("FoldedGroupsModel", "left", "[I", true)
  | 19 => ("FoldedGroupsModel", "right", "[I", true)
  | 20 => ("FoldedGroupsModel", "foundFrom", "I", false)
  | 21 => ("FoldedGroupsModel", "foundBy", "I", false)
  | 22 => ("FoldedGroupsModel", "foundTo", "I", false)
  | 23 => ("FoldedGroupsModel", "many", "I", false)
  | _ => ("FoldedGroupsModel", "row", "[I", true)
def tyM : Nat → FieldType := fun k => match k with
  | 0 => .int
  | 1 => .int
  | 2 => .array .int
  | 3 => .array .int
  | 4 => .array .int
  | 5 => .array .int
  | 6 => .array .int
  | 7 => .array .int
  | 8 => .int
  | 9 => .int
  | 10 => .int
  | 11 => .array .int
  | 12 => .array .int
  | 13 => .array .int
  | 14 => .array .int
  | 15 => .array .int
  | 16 => .array .int
  | 17 => .array .int
  | 18 => .array .int
  | 19 => .array .int
  | 20 => .int
  | 21 => .int
  | 22 => .int
  | 23 => .int
  | _ => .array .int
theorem nmM : ∀ a, a < 25 → ∀ b, b < 25 → a ≠ b → (TM a).2.1 ≠ (TM b).2.1 := by decide +kernel
theorem tkM : ∀ k, k < 25 → parseFieldDescriptor (TM k).2.2.1 = some (tyM k) := by decide +kernel
theorem inM : ∀ w ∈ u_ws RM TM 25, w ∈ xG := by
  intro w hw
  obtain ⟨k, hk, rfl⟩ := List.mem_map.mp hw
  have hk := List.mem_range.mp hk
  match k, hk with
  | 0, _ => exact xG_tab 381 (by decide +kernel) rfl
  | 1, _ => exact xG_tab 383 (by decide +kernel) rfl
  | 2, _ => exact xG_tab 385 (by decide +kernel) rfl
  | 3, _ => exact xG_tab 387 (by decide +kernel) rfl
  | 4, _ => exact xG_tab 389 (by decide +kernel) rfl
  | 5, _ => exact xG_tab 391 (by decide +kernel) rfl
  | 6, _ => exact xG_tab 393 (by decide +kernel) rfl
  | 7, _ => exact xG_tab 395 (by decide +kernel) rfl
  | 8, _ => exact xG_tab 397 (by decide +kernel) rfl
  | 9, _ => exact xG_tab 399 (by decide +kernel) rfl
  | 10, _ => exact xG_tab 401 (by decide +kernel) rfl
  | 11, _ => exact xG_tab 403 (by decide +kernel) rfl
  | 12, _ => exact xG_tab 405 (by decide +kernel) rfl
  | 13, _ => exact xG_tab 407 (by decide +kernel) rfl
  | 14, _ => exact xG_tab 409 (by decide +kernel) rfl
  | 15, _ => exact xG_tab 411 (by decide +kernel) rfl
  | 16, _ => exact xG_tab 413 (by decide +kernel) rfl
  | 17, _ => exact xG_tab 415 (by decide +kernel) rfl
  | 18, _ => exact xG_tab 417 (by decide +kernel) rfl
  | 19, _ => exact xG_tab 419 (by decide +kernel) rfl
  | 20, _ => exact xG_tab 421 (by decide +kernel) rfl
  | 21, _ => exact xG_tab 423 (by decide +kernel) rfl
  | 22, _ => exact xG_tab 425 (by decide +kernel) rfl
  | 23, _ => exact xG_tab 427 (by decide +kernel) rfl
  | 24, _ => exact xG_tab 429 (by decide +kernel) rfl
  | (q + 25), h => exact absurd h (by omega)
theorem jnM (w0 : Cond) : ∀ w ∈ u_ws RM TM 25, w ∈ w0 :: xG := fun w h => List.mem_cons_of_mem _ (inM w h)
def RL : String := "FoldedGroupsLaw"
def RJ : String := "java/util/Arrays"
abbrev vwCl : List vw_C := [(RD, TD, 12), (RG, TG, 9), (RW, TW, 2), (RX, TX, 4), (RM, TM, 25)]
abbrev cX_init : ByteArray := prog_1_method_1_code
def yX_init : MethodName := ⟨RX, "<init>", "(I)V"⟩
abbrev cX_letter : ByteArray := prog_1_method_2_code
def yX_letter : MethodName := ⟨RX, "letter", "(I)I"⟩
abbrev cX_clear : ByteArray := prog_1_method_3_code
def yX_clear : MethodName := ⟨RX, "clear", "()I"⟩
abbrev cX_invert : ByteArray := prog_1_method_4_code
def yX_invert : MethodName := ⟨RX, "invert", "()I"⟩
abbrev cX_at : ByteArray := prog_1_method_5_code
def yX_at : MethodName := ⟨RX, "at", "(I)I"⟩
abbrev cX_take : ByteArray := prog_1_method_6_code
def yX_take : MethodName := ⟨RX, "take", "(II)I"⟩
abbrev cX_generate : ByteArray := prog_1_method_7_code
def yX_generate : MethodName := ⟨RX, "generate", "(I)I"⟩
abbrev cX_drop : ByteArray := prog_1_method_8_code
def yX_drop : MethodName := ⟨RX, "drop", "(I)I"⟩
abbrev cX_conjugate : ByteArray := prog_1_method_9_code
def yX_conjugate : MethodName := ⟨RX, "conjugate", "(II)I"⟩
abbrev cX_meet : ByteArray := prog_1_method_10_code
def yX_meet : MethodName := ⟨RX, "meet", "(III)I"⟩
abbrev cX_join : ByteArray := prog_1_method_11_code
def yX_join : MethodName := ⟨RX, "join", "(III)I"⟩
abbrev cX_member : ByteArray := prog_1_method_12_code
def yX_member : MethodName := ⟨RX, "member", "(I)Z"⟩
abbrev cX_trace : ByteArray := prog_1_method_13_code
def yX_trace : MethodName := ⟨RX, "trace", "(I)I"⟩
abbrev cX_written : ByteArray := prog_1_method_14_code
def yX_written : MethodName := ⟨RX, "written", "(II)I"⟩
abbrev cX_length : ByteArray := prog_1_method_15_code
def yX_length : MethodName := ⟨RX, "length", "(II)I"⟩
abbrev cX_basis : ByteArray := prog_1_method_16_code
def yX_basis : MethodName := ⟨RX, "basis", "(III)I"⟩
abbrev cX_target : ByteArray := prog_1_method_17_code
def yX_target : MethodName := ⟨RX, "target", "(III)I"⟩
abbrev cX_figure : ByteArray := prog_1_method_18_code
def yX_figure : MethodName := ⟨RX, "figure", "(II)I"⟩
abbrev cX_contains : ByteArray := prog_1_method_19_code
def yX_contains : MethodName := ⟨RX, "contains", "(II)Z"⟩
abbrev cX_normal : ByteArray := prog_1_method_20_code
def yX_normal : MethodName := ⟨RX, "normal", "(I)Z"⟩
abbrev cX_isSubgroup : ByteArray := prog_1_method_21_code
def yX_isSubgroup : MethodName := ⟨RX, "isSubgroup", "(I)Z"⟩
abbrev cX_isLetter : ByteArray := prog_1_method_22_code
def yX_isLetter : MethodName := ⟨RX, "isLetter", "(I)Z"⟩
abbrev cX_isComplete : ByteArray := prog_1_method_23_code
def yX_isComplete : MethodName := ⟨RX, "isComplete", "(LFoldedGroups$Graph;)Z"⟩
abbrev cX_codeOf : ByteArray := prog_1_method_24_code
def yX_codeOf : MethodName := ⟨RX, "codeOf", "(I)I"⟩
abbrev cX_letterOf : ByteArray := prog_1_method_25_code
def yX_letterOf : MethodName := ⟨RX, "letterOf", "(I)I"⟩
abbrev cM_init : ByteArray := prog_6_method_1_code
def yM_init : MethodName := ⟨RM, "<init>", "(I)V"⟩
abbrev cM_isLetter : ByteArray := prog_6_method_2_code
def yM_isLetter : MethodName := ⟨RM, "isLetter", "(I)Z"⟩
abbrev cM_isGroup : ByteArray := prog_6_method_3_code
def yM_isGroup : MethodName := ⟨RM, "isGroup", "(I)Z"⟩
abbrev cM_numberOf : ByteArray := prog_6_method_4_code
def yM_numberOf : MethodName := ⟨RM, "numberOf", "(I)I"⟩
abbrev cM_letterOf : ByteArray := prog_6_method_5_code
def yM_letterOf : MethodName := ⟨RM, "letterOf", "(I)I"⟩
abbrev cM_way : ByteArray := prog_6_method_6_code
def yM_way : MethodName := ⟨RM, "way", "(III)I"⟩
abbrev cM_letter : ByteArray := prog_6_method_7_code
def yM_letter : MethodName := ⟨RM, "letter", "(I)I"⟩
abbrev cM_clear : ByteArray := prog_6_method_8_code
def yM_clear : MethodName := ⟨RM, "clear", "()I"⟩
abbrev cM_invert : ByteArray := prog_6_method_9_code
def yM_invert : MethodName := ⟨RM, "invert", "()I"⟩
abbrev cM_at : ByteArray := prog_6_method_10_code
def yM_at : MethodName := ⟨RM, "at", "(I)I"⟩
abbrev cM_begin : ByteArray := prog_6_method_11_code
def yM_begin : MethodName := ⟨RM, "begin", "(I)V"⟩
abbrev cM_addEdge : ByteArray := prog_6_method_12_code
def yM_addEdge : MethodName := ⟨RM, "addEdge", "(III)V"⟩
abbrev cM_addCopy : ByteArray := prog_6_method_13_code
def yM_addCopy : MethodName := ⟨RM, "addCopy", "(II)V"⟩
abbrev cM_unite : ByteArray := prog_6_method_14_code
def yM_unite : MethodName := ⟨RM, "unite", "(II)V"⟩
abbrev cM_foldOnce : ByteArray := prog_6_method_15_code
def yM_foldOnce : MethodName := ⟨RM, "foldOnce", "()Z"⟩
abbrev cM_fold : ByteArray := prog_6_method_16_code
def yM_fold : MethodName := ⟨RM, "fold", "()V"⟩
abbrev cM_onlyWay : ByteArray := prog_6_method_17_code
def yM_onlyWay : MethodName := ⟨RM, "onlyWay", "(I)I"⟩
abbrev cM_trim : ByteArray := prog_6_method_18_code
def yM_trim : MethodName := ⟨RM, "trim", "()V"⟩
abbrev cM_settle : ByteArray := prog_6_method_19_code
def yM_settle : MethodName := ⟨RM, "settle", "(I)I"⟩
abbrev cM_generate : ByteArray := prog_6_method_20_code
def yM_generate : MethodName := ⟨RM, "generate", "(I)I"⟩
abbrev cM_drop : ByteArray := prog_6_method_21_code
def yM_drop : MethodName := ⟨RM, "drop", "(I)I"⟩
abbrev cM_conjugate : ByteArray := prog_6_method_22_code
def yM_conjugate : MethodName := ⟨RM, "conjugate", "(II)I"⟩
abbrev cM_join : ByteArray := prog_6_method_23_code
def yM_join : MethodName := ⟨RM, "join", "(III)I"⟩
abbrev cM_pair : ByteArray := prog_6_method_24_code
def yM_pair : MethodName := ⟨RM, "pair", "(II)I"⟩
abbrev cM_meet : ByteArray := prog_6_method_25_code
def yM_meet : MethodName := ⟨RM, "meet", "(III)I"⟩
abbrev cM_walk : ByteArray := prog_6_method_26_code
def yM_walk : MethodName := ⟨RM, "walk", "(I)I"⟩
abbrev cM_trace : ByteArray := prog_6_method_27_code
def yM_trace : MethodName := ⟨RM, "trace", "(I)I"⟩
abbrev cM_member : ByteArray := prog_6_method_28_code
def yM_member : MethodName := ⟨RM, "member", "(I)Z"⟩
abbrev cM_isTree : ByteArray := prog_6_method_29_code
def yM_isTree : MethodName := ⟨RM, "isTree", "(IIII)Z"⟩
abbrev cM_elementsBefore : ByteArray := prog_6_method_30_code
def yM_elementsBefore : MethodName := ⟨RM, "elementsBefore", "(III)I"⟩
abbrev cM_elements : ByteArray := prog_6_method_31_code
def yM_elements : MethodName := ⟨RM, "elements", "(I)I"⟩
abbrev cM_find : ByteArray := prog_6_method_32_code
def yM_find : MethodName := ⟨RM, "find", "(II)Z"⟩
abbrev cM_put : ByteArray := prog_6_method_33_code
def yM_put : MethodName := ⟨RM, "put", "(I)V"⟩
abbrev cM_putWay : ByteArray := prog_6_method_34_code
def yM_putWay : MethodName := ⟨RM, "putWay", "(II)V"⟩
abbrev cM_putElement : ByteArray := prog_6_method_35_code
def yM_putElement : MethodName := ⟨RM, "putElement", "(I)V"⟩
abbrev cM_leadsBack : ByteArray := prog_6_method_36_code
def yM_leadsBack : MethodName := ⟨RM, "leadsBack", "(I)Z"⟩
abbrev cM_take : ByteArray := prog_6_method_37_code
def yM_take : MethodName := ⟨RM, "take", "(II)I"⟩
abbrev cM_length : ByteArray := prog_6_method_38_code
def yM_length : MethodName := ⟨RM, "length", "(II)I"⟩
abbrev cM_basis : ByteArray := prog_6_method_39_code
def yM_basis : MethodName := ⟨RM, "basis", "(III)I"⟩
abbrev cM_written : ByteArray := prog_6_method_40_code
def yM_written : MethodName := ⟨RM, "written", "(II)I"⟩
abbrev cM_target : ByteArray := prog_6_method_41_code
def yM_target : MethodName := ⟨RM, "target", "(III)I"⟩
abbrev cM_figure : ByteArray := prog_6_method_42_code
def yM_figure : MethodName := ⟨RM, "figure", "(II)I"⟩
abbrev cM_contains : ByteArray := prog_6_method_43_code
def yM_contains : MethodName := ⟨RM, "contains", "(II)Z"⟩
abbrev cM_normal : ByteArray := prog_6_method_44_code
def yM_normal : MethodName := ⟨RM, "normal", "(I)Z"⟩
abbrev cD_init : ByteArray := prog_2_method_1_code
def yD_init : MethodName := ⟨RD, "<init>", "()V"⟩
abbrev cD_begin : ByteArray := prog_2_method_2_code
def yD_begin : MethodName := ⟨RD, "begin", "()V"⟩
abbrev cD_addEdge : ByteArray := prog_2_method_3_code
def yD_addEdge : MethodName := ⟨RD, "addEdge", "(III)V"⟩
abbrev cD_addCopy : ByteArray := prog_2_method_4_code
def yD_addCopy : MethodName := ⟨RD, "addCopy", "(LFoldedGroups$Graph;)V"⟩
abbrev cD_addRing : ByteArray := prog_2_method_5_code
def yD_addRing : MethodName := ⟨RD, "addRing", "(LFoldedGroups$Word;)V"⟩
abbrev cD_moveBaseAlong : ByteArray := prog_2_method_6_code
def yD_moveBaseAlong : MethodName := ⟨RD, "moveBaseAlong", "(LFoldedGroups$Word;)V"⟩
abbrev cD_addRow : ByteArray := prog_2_method_7_code
def yD_addRow : MethodName := ⟨RD, "addRow", "(LFoldedGroups$Word;I)I"⟩
abbrev cD_fold : ByteArray := prog_2_method_8_code
def yD_fold : MethodName := ⟨RD, "fold", "()V"⟩
abbrev cD_layWay : ByteArray := prog_2_method_9_code
def yD_layWay : MethodName := ⟨RD, "layWay", "(III)Z"⟩
abbrev cD_unite : ByteArray := prog_2_method_10_code
def yD_unite : MethodName := ⟨RD, "unite", "(II)V"⟩
abbrev cD_addPairs : ByteArray := prog_2_method_11_code
def yD_addPairs : MethodName := ⟨RD, "addPairs", "(LFoldedGroups$Graph;LFoldedGroups$Graph;)Z"⟩
abbrev cD_findOrAddPair : ByteArray := prog_2_method_12_code
def yD_findOrAddPair : MethodName := ⟨RD, "findOrAddPair", "(II)I"⟩
abbrev cD_trim : ByteArray := prog_2_method_13_code
def yD_trim : MethodName := ⟨RD, "trim", "()V"⟩
abbrev cD_trimFrom : ByteArray := prog_2_method_14_code
def yD_trimFrom : MethodName := ⟨RD, "trimFrom", "(I)V"⟩
abbrev cD_onlyWay : ByteArray := prog_2_method_15_code
def yD_onlyWay : MethodName := ⟨RD, "onlyWay", "(I)I"⟩
abbrev cD_numberInto : ByteArray := prog_2_method_16_code
def yD_numberInto : MethodName := ⟨RD, "numberInto", "(LFoldedGroups$Graph;)I"⟩
abbrev cG_init : ByteArray := prog_3_method_1_code
def yG_init : MethodName := ⟨RG, "<init>", "()V"⟩
abbrev cG_reset : ByteArray := prog_3_method_2_code
def yG_reset : MethodName := ⟨RG, "reset", "()V"⟩
abbrev cG_way : ByteArray := prog_3_method_3_code
def yG_way : MethodName := ⟨RG, "way", "(II)I"⟩
abbrev cG_growTree : ByteArray := prog_3_method_4_code
def yG_growTree : MethodName := ⟨RG, "growTree", "(II)V"⟩
abbrev cG_findBasis : ByteArray := prog_3_method_5_code
def yG_findBasis : MethodName := ⟨RG, "findBasis", "()V"⟩
abbrev cG_slotOfElement : ByteArray := prog_3_method_6_code
def yG_slotOfElement : MethodName := ⟨RG, "slotOfElement", "(I)I"⟩
abbrev cG_elementSize : ByteArray := prog_3_method_7_code
def yG_elementSize : MethodName := ⟨RG, "elementSize", "(I)I"⟩
abbrev cG_elementLetter : ByteArray := prog_3_method_8_code
def yG_elementLetter : MethodName := ⟨RG, "elementLetter", "(II)I"⟩
abbrev cG_climb : ByteArray := prog_3_method_9_code
def yG_climb : MethodName := ⟨RG, "climb", "(II)I"⟩
abbrev cG_liesUpon : ByteArray := prog_3_method_10_code
def yG_liesUpon : MethodName := ⟨RG, "liesUpon", "(LFoldedGroups$Graph;I)Z"⟩
abbrev cW_init : ByteArray := prog_4_method_1_code
def yW_init : MethodName := ⟨RW, "<init>", "()V"⟩
abbrev cW_append : ByteArray := prog_4_method_2_code
def yW_append : MethodName := ⟨RW, "append", "(I)I"⟩
abbrev cW_turnRound : ByteArray := prog_4_method_3_code
def yW_turnRound : MethodName := ⟨RW, "turnRound", "()V"⟩
abbrev cL_cell : ByteArray := method_2_code
def yL_cell : MethodName := ⟨RL, "cell", "([II)I"⟩
abbrev cJ_fill : ByteArray := prog_8_method_103_code
def yJ_fill : MethodName := ⟨RJ, "fill", "([II)V"⟩
theorem knL : Cond.initialized RL ∈ xG := xG_tab 0 (by first | rfl | decide +kernel) rfl
theorem knX : Cond.initialized RX ∈ xG := xG_tab 1 (by first | rfl | decide +kernel) rfl
theorem knA : Cond.initialized "java/lang/Math" ∈ xG := xG_tab 2 (by first | rfl | decide +kernel) rfl
theorem knW : Cond.initialized RW ∈ xG := xG_tab 3 (by first | rfl | decide +kernel) rfl
theorem knG : Cond.initialized RG ∈ xG := xG_tab 4 (by first | rfl | decide +kernel) rfl
theorem knJ : Cond.initialized RJ ∈ xG := xG_tab 5 (by first | rfl | decide +kernel) rfl
theorem knD : Cond.initialized RD ∈ xG := xG_tab 6 (by first | rfl | decide +kernel) rfl
theorem knM : Cond.initialized RM ∈ xG := xG_tab 7 (by first | rfl | decide +kernel) rfl
theorem kkL_7 : Cond.classLink RL 7 RX ∈ xG := xG_tab 8 (by first | rfl | decide +kernel) rfl
theorem kbX : Cond.instantiable RX 4 ∈ xG := xG_tab 9 (by first | rfl | decide +kernel) rfl
theorem klL_15 : Cond.methodLink RL 15 yX_init ∈ xG := xG_tab 10 (by first | rfl | decide +kernel) rfl
theorem kiX_init : Cond.instanceMethod yX_init ∈ xG := xG_tab 11 (by first | rfl | decide +kernel) rfl
theorem kcX_init : Cond.code yX_init cX_init 3 none ∈ xG := xG_tab 12 (by first | rfl | decide +kernel) rfl
theorem klX_3 : Cond.methodLink RX 3 objectInit ∈ xG := xG_tab 13 (by first | rfl | decide +kernel) rfl
theorem kiO : Cond.instanceMethod objectInit ∈ xG := xG_tab 14 (by first | rfl | decide +kernel) rfl
theorem kcO : Cond.code objectInit ⟨#[0xb1]⟩ 1 none ∈ xG := xG_tab 15 (by first | rfl | decide +kernel) rfl
theorem klX_9 : Cond.methodLink RX 9 Lib.Math.min.name ∈ xG := xG_tab 16 (by first | rfl | decide +kernel) rfl
theorem ksA_min : Cond.static Lib.Math.min.name ∈ xG := xG_tab 17 (by first | rfl | decide +kernel) rfl
theorem kcA_min : Cond.code Lib.Math.min.name Lib.Math.min.code 2 (some .int) ∈ xG := xG_tab 18 (by first | rfl | decide +kernel) rfl
theorem klX_15 : Cond.methodLink RX 15 Lib.Math.max.name ∈ xG := xG_tab 19 (by first | rfl | decide +kernel) rfl
theorem ksA_max : Cond.static Lib.Math.max.name ∈ xG := xG_tab 20 (by first | rfl | decide +kernel) rfl
theorem kcA_max : Cond.code Lib.Math.max.name Lib.Math.max.code 2 (some .int) ∈ xG := xG_tab 21 (by first | rfl | decide +kernel) rfl
theorem kkX_22 : Cond.classLink RX 22 RW ∈ xG := xG_tab 22 (by first | rfl | decide +kernel) rfl
theorem kbW : Cond.instantiable RW 2 ∈ xG := xG_tab 23 (by first | rfl | decide +kernel) rfl
theorem nlX_24 : Cond.methodLinkNest RX 24 yW_init RX ∈ xNl := xN_tab 24 (by first | rfl | decide +kernel) rfl
theorem kiW_init : Cond.instanceMethod yW_init ∈ xG := xG_tab 25 (by first | rfl | decide +kernel) rfl
theorem kcW_init : Cond.code yW_init cW_init 1 none ∈ xG := xG_tab 26 (by first | rfl | decide +kernel) rfl
theorem klW_3 : Cond.methodLink RW 3 objectInit ∈ xG := xG_tab 27 (by first | rfl | decide +kernel) rfl
theorem kfW_9 : Cond.fieldLink RW 9 RW "row" "[I" ∈ xG := xG_tab 28 (by first | rfl | decide +kernel) rfl
theorem nfX_57 : Cond.fieldLinkNest RX 57 RW "row" "[I" RX ∈ xNl := xN_tab 29 (by first | rfl | decide +kernel) rfl
theorem nfD_73 : Cond.fieldLinkNest RD 73 RW "row" "[I" RX ∈ xNl := xN_tab 30 (by first | rfl | decide +kernel) rfl
theorem kfW_15 : Cond.fieldLink RW 15 RW "size" "I" ∈ xG := xG_tab 31 (by first | rfl | decide +kernel) rfl
theorem nfX_51 : Cond.fieldLinkNest RX 51 RW "size" "I" RX ∈ xNl := xN_tab 32 (by first | rfl | decide +kernel) rfl
theorem nfD_66 : Cond.fieldLinkNest RD 66 RW "size" "I" RX ∈ xNl := xN_tab 33 (by first | rfl | decide +kernel) rfl
theorem kaI : Cond.arrayClass .int ∈ xG := xG_tab 39 (by first | rfl | decide +kernel) rfl
theorem kkX_29 : Cond.classLink RX 29 RG ∈ xG := xG_tab 40 (by first | rfl | decide +kernel) rfl
theorem kbG : Cond.instantiable RG 9 ∈ xG := xG_tab 42 (by first | rfl | decide +kernel) rfl
theorem nlX_35 : Cond.methodLinkNest RX 35 yG_init RX ∈ xNl := xN_tab 43 (by first | rfl | decide +kernel) rfl
theorem kiG_init : Cond.instanceMethod yG_init ∈ xG := xG_tab 44 (by first | rfl | decide +kernel) rfl
theorem kcG_init : Cond.code yG_init cG_init 1 none ∈ xG := xG_tab 45 (by first | rfl | decide +kernel) rfl
theorem klG_3 : Cond.methodLink RG 3 objectInit ∈ xG := xG_tab 46 (by first | rfl | decide +kernel) rfl
theorem klG_30 : Cond.methodLink RG 30 yG_reset ∈ xG := xG_tab 47 (by first | rfl | decide +kernel) rfl
theorem kiG_reset : Cond.instanceMethod yG_reset ∈ xG := xG_tab 49 (by first | rfl | decide +kernel) rfl
theorem kcG_reset : Cond.code yG_reset cG_reset 1 none ∈ xG := xG_tab 50 (by first | rfl | decide +kernel) rfl
theorem klG_43 : Cond.methodLink RG 43 yJ_fill ∈ xG := xG_tab 51 (by first | rfl | decide +kernel) rfl
theorem ksJ_fill : Cond.static yJ_fill ∈ xG := xG_tab 52 (by first | rfl | decide +kernel) rfl
theorem kcJ_fill : Cond.code yJ_fill cJ_fill 4 none ∈ xG := xG_tab 53 (by first | rfl | decide +kernel) rfl
theorem kfG_33 : Cond.fieldLink RG 33 RG "size" "I" ∈ xG := xG_tab 54 (by first | rfl | decide +kernel) rfl
theorem nfD_55 : Cond.fieldLinkNest RD 55 RG "size" "I" RX ∈ xNl := xN_tab 55 (by first | rfl | decide +kernel) rfl
theorem nfX_73 : Cond.fieldLinkNest RX 73 RG "size" "I" RX ∈ xNl := xN_tab 56 (by first | rfl | decide +kernel) rfl
theorem kfG_37 : Cond.fieldLink RG 37 RG "edges" "I" ∈ xG := xG_tab 57 (by first | rfl | decide +kernel) rfl
theorem nfX_123 : Cond.fieldLinkNest RX 123 RG "edges" "I" RX ∈ xNl := xN_tab 58 (by first | rfl | decide +kernel) rfl
theorem kfG_40 : Cond.fieldLink RG 40 RG "rank" "I" ∈ xG := xG_tab 59 (by first | rfl | decide +kernel) rfl
theorem nfX_126 : Cond.fieldLinkNest RX 126 RG "rank" "I" RX ∈ xNl := xN_tab 60 (by first | rfl | decide +kernel) rfl
theorem kfG_9 : Cond.fieldLink RG 9 RG "ways" "[I" ∈ xG := xG_tab 61 (by first | rfl | decide +kernel) rfl
theorem nfD_104 : Cond.fieldLinkNest RD 104 RG "ways" "[I" RX ∈ xNl := xN_tab 62 (by first | rfl | decide +kernel) rfl
theorem kfG_15 : Cond.fieldLink RG 15 RG "items" "[I" ∈ xG := xG_tab 63 (by first | rfl | decide +kernel) rfl
theorem nfX_117 : Cond.fieldLinkNest RX 117 RG "items" "[I" RX ∈ xNl := xN_tab 64 (by first | rfl | decide +kernel) rfl
theorem kfG_18 : Cond.fieldLink RG 18 RG "parents" "[I" ∈ xG := xG_tab 65 (by first | rfl | decide +kernel) rfl
theorem kfG_21 : Cond.fieldLink RG 21 RG "codes" "[I" ∈ xG := xG_tab 66 (by first | rfl | decide +kernel) rfl
theorem kfG_24 : Cond.fieldLink RG 24 RG "depths" "[I" ∈ xG := xG_tab 67 (by first | rfl | decide +kernel) rfl
theorem kfG_27 : Cond.fieldLink RG 27 RG "images" "[I" ∈ xG := xG_tab 68 (by first | rfl | decide +kernel) rfl
theorem kkX_36 : Cond.classLink RX 36 RD ∈ xG := xG_tab 88 (by first | rfl | decide +kernel) rfl
theorem kbD : Cond.instantiable RD 12 ∈ xG := xG_tab 89 (by first | rfl | decide +kernel) rfl
theorem nlX_38 : Cond.methodLinkNest RX 38 yD_init RX ∈ xNl := xN_tab 90 (by first | rfl | decide +kernel) rfl
theorem kiD_init : Cond.instanceMethod yD_init ∈ xG := xG_tab 91 (by first | rfl | decide +kernel) rfl
theorem kcD_init : Cond.code yD_init cD_init 1 none ∈ xG := xG_tab 92 (by first | rfl | decide +kernel) rfl
theorem klD_3 : Cond.methodLink RD 3 objectInit ∈ xG := xG_tab 93 (by first | rfl | decide +kernel) rfl
theorem kfD_39 : Cond.fieldLink RD 39 RD "size" "I" ∈ xG := xG_tab 94 (by first | rfl | decide +kernel) rfl
theorem kfD_43 : Cond.fieldLink RD 43 RD "base" "I" ∈ xG := xG_tab 95 (by first | rfl | decide +kernel) rfl
theorem kfD_46 : Cond.fieldLink RD 46 RD "edges" "I" ∈ xG := xG_tab 96 (by first | rfl | decide +kernel) rfl
theorem kfD_9 : Cond.fieldLink RD 9 RD "froms" "[I" ∈ xG := xG_tab 97 (by first | rfl | decide +kernel) rfl
theorem kfD_15 : Cond.fieldLink RD 15 RD "codes" "[I" ∈ xG := xG_tab 98 (by first | rfl | decide +kernel) rfl
theorem kfD_18 : Cond.fieldLink RD 18 RD "tos" "[I" ∈ xG := xG_tab 99 (by first | rfl | decide +kernel) rfl
theorem kfD_21 : Cond.fieldLink RD 21 RD "names" "[I" ∈ xG := xG_tab 100 (by first | rfl | decide +kernel) rfl
theorem kfD_24 : Cond.fieldLink RD 24 RD "ways" "[I" ∈ xG := xG_tab 101 (by first | rfl | decide +kernel) rfl
theorem kfD_27 : Cond.fieldLink RD 27 RD "lefts" "[I" ∈ xG := xG_tab 102 (by first | rfl | decide +kernel) rfl
theorem kfD_30 : Cond.fieldLink RD 30 RD "rights" "[I" ∈ xG := xG_tab 103 (by first | rfl | decide +kernel) rfl
theorem kfD_33 : Cond.fieldLink RD 33 RD "numbers" "[I" ∈ xG := xG_tab 104 (by first | rfl | decide +kernel) rfl
theorem kfD_36 : Cond.fieldLink RD 36 RD "order" "[I" ∈ xG := xG_tab 105 (by first | rfl | decide +kernel) rfl
theorem kfX_18 : Cond.fieldLink RX 18 RX "letters" "I" ∈ xG := xG_tab 131 (by first | rfl | decide +kernel) rfl
theorem kfX_25 : Cond.fieldLink RX 25 RX "typed" "LFoldedGroups$Word;" ∈ xG := xG_tab 132 (by first | rfl | decide +kernel) rfl
theorem kfX_31 : Cond.fieldLink RX 31 RX "graphs" "[LFoldedGroups$Graph;" ∈ xG := xG_tab 133 (by first | rfl | decide +kernel) rfl
theorem kfX_39 : Cond.fieldLink RX 39 RX "draft" "LFoldedGroups$Draft;" ∈ xG := xG_tab 134 (by first | rfl | decide +kernel) rfl
theorem klL_21 : Cond.methodLink RL 21 yX_letter ∈ xG := xG_tab 144 (by first | rfl | decide +kernel) rfl
theorem kiX_letter : Cond.instanceMethod yX_letter ∈ xG := xG_tab 145 (by first | rfl | decide +kernel) rfl
theorem keX_letter : Cond.selects RX yX_letter yX_letter ∈ xG := xG_tab 146 (by first | rfl | decide +kernel) rfl
theorem kcX_letter : Cond.code yX_letter cX_letter 2 (some .int) ∈ xG := xG_tab 147 (by first | rfl | decide +kernel) rfl
theorem klX_43 : Cond.methodLink RX 43 yX_isLetter ∈ xG := xG_tab 148 (by first | rfl | decide +kernel) rfl
theorem kiX_isLetter : Cond.instanceMethod yX_isLetter ∈ xG := xG_tab 150 (by first | rfl | decide +kernel) rfl
theorem kcX_isLetter : Cond.code yX_isLetter cX_isLetter 2 (some .boolean) ∈ xG := xG_tab 151 (by first | rfl | decide +kernel) rfl
theorem nlX_47 : Cond.methodLinkNest RX 47 yW_append RX ∈ xNl := xN_tab 152 (by first | rfl | decide +kernel) rfl
theorem kiW_append : Cond.instanceMethod yW_append ∈ xG := xG_tab 154 (by first | rfl | decide +kernel) rfl
theorem kcW_append : Cond.code yW_append cW_append 2 (some .int) ∈ xG := xG_tab 155 (by first | rfl | decide +kernel) rfl
theorem klL_26 : Cond.methodLink RL 26 yX_clear ∈ xG := xG_tab 156 (by first | rfl | decide +kernel) rfl
theorem kiX_clear : Cond.instanceMethod yX_clear ∈ xG := xG_tab 157 (by first | rfl | decide +kernel) rfl
theorem keX_clear : Cond.selects RX yX_clear yX_clear ∈ xG := xG_tab 158 (by first | rfl | decide +kernel) rfl
theorem kcX_clear : Cond.code yX_clear cX_clear 2 (some .int) ∈ xG := xG_tab 159 (by first | rfl | decide +kernel) rfl
theorem klL_31 : Cond.methodLink RL 31 yX_invert ∈ xG := xG_tab 160 (by first | rfl | decide +kernel) rfl
theorem kiX_invert : Cond.instanceMethod yX_invert ∈ xG := xG_tab 161 (by first | rfl | decide +kernel) rfl
theorem keX_invert : Cond.selects RX yX_invert yX_invert ∈ xG := xG_tab 162 (by first | rfl | decide +kernel) rfl
theorem kcX_invert : Cond.code yX_invert cX_invert 1 (some .int) ∈ xG := xG_tab 163 (by first | rfl | decide +kernel) rfl
theorem nlX_54 : Cond.methodLinkNest RX 54 yW_turnRound RX ∈ xNl := xN_tab 164 (by first | rfl | decide +kernel) rfl
theorem kiW_turnRound : Cond.instanceMethod yW_turnRound ∈ xG := xG_tab 166 (by first | rfl | decide +kernel) rfl
theorem kcW_turnRound : Cond.code yW_turnRound cW_turnRound 4 none ∈ xG := xG_tab 167 (by first | rfl | decide +kernel) rfl
theorem klL_35 : Cond.methodLink RL 35 yX_at ∈ xG := xG_tab 168 (by first | rfl | decide +kernel) rfl
theorem kiX_at : Cond.instanceMethod yX_at ∈ xG := xG_tab 169 (by first | rfl | decide +kernel) rfl
theorem keX_at : Cond.selects RX yX_at yX_at ∈ xG := xG_tab 170 (by first | rfl | decide +kernel) rfl
theorem kcX_at : Cond.code yX_at cX_at 2 (some .int) ∈ xG := xG_tab 171 (by first | rfl | decide +kernel) rfl
theorem klL_39 : Cond.methodLink RL 39 yX_take ∈ xG := xG_tab 172 (by first | rfl | decide +kernel) rfl
theorem kiX_take : Cond.instanceMethod yX_take ∈ xG := xG_tab 173 (by first | rfl | decide +kernel) rfl
theorem keX_take : Cond.selects RX yX_take yX_take ∈ xG := xG_tab 174 (by first | rfl | decide +kernel) rfl
theorem kcX_take : Cond.code yX_take cX_take 7 (some .int) ∈ xG := xG_tab 175 (by first | rfl | decide +kernel) rfl
theorem klX_61 : Cond.methodLink RX 61 yX_length ∈ xG := xG_tab 176 (by first | rfl | decide +kernel) rfl
theorem kiX_length : Cond.instanceMethod yX_length ∈ xG := xG_tab 177 (by first | rfl | decide +kernel) rfl
theorem keX_length : Cond.selects RX yX_length yX_length ∈ xG := xG_tab 178 (by first | rfl | decide +kernel) rfl
theorem kcX_length : Cond.code yX_length cX_length 4 (some .int) ∈ xG := xG_tab 179 (by first | rfl | decide +kernel) rfl
theorem klX_70 : Cond.methodLink RX 70 yX_isSubgroup ∈ xG := xG_tab 180 (by first | rfl | decide +kernel) rfl
theorem kiX_isSubgroup : Cond.instanceMethod yX_isSubgroup ∈ xG := xG_tab 182 (by first | rfl | decide +kernel) rfl
theorem kcX_isSubgroup : Cond.code yX_isSubgroup cX_isSubgroup 2 (some .boolean) ∈ xG := xG_tab 183 (by first | rfl | decide +kernel) rfl
theorem nlX_64 : Cond.methodLinkNest RX 64 yG_slotOfElement RX ∈ xNl := xN_tab 184 (by first | rfl | decide +kernel) rfl
theorem kiG_slotOfElement : Cond.instanceMethod yG_slotOfElement ∈ xG := xG_tab 186 (by first | rfl | decide +kernel) rfl
theorem kcG_slotOfElement : Cond.code yG_slotOfElement cG_slotOfElement 3 (some .int) ∈ xG := xG_tab 187 (by first | rfl | decide +kernel) rfl
theorem nlX_120 : Cond.methodLinkNest RX 120 yG_elementSize RX ∈ xNl := xN_tab 188 (by first | rfl | decide +kernel) rfl
theorem kiG_elementSize : Cond.instanceMethod yG_elementSize ∈ xG := xG_tab 190 (by first | rfl | decide +kernel) rfl
theorem kcG_elementSize : Cond.code yG_elementSize cG_elementSize 2 (some .int) ∈ xG := xG_tab 191 (by first | rfl | decide +kernel) rfl
theorem nlX_67 : Cond.methodLinkNest RX 67 yG_elementLetter RX ∈ xNl := xN_tab 192 (by first | rfl | decide +kernel) rfl
theorem kiG_elementLetter : Cond.instanceMethod yG_elementLetter ∈ xG := xG_tab 194 (by first | rfl | decide +kernel) rfl
theorem kcG_elementLetter : Cond.code yG_elementLetter cG_elementLetter 5 (some .int) ∈ xG := xG_tab 195 (by first | rfl | decide +kernel) rfl
theorem klG_53 : Cond.methodLink RG 53 yG_climb ∈ xG := xG_tab 196 (by first | rfl | decide +kernel) rfl
theorem kiG_climb : Cond.instanceMethod yG_climb ∈ xG := xG_tab 198 (by first | rfl | decide +kernel) rfl
theorem kcG_climb : Cond.code yG_climb cG_climb 5 (some .int) ∈ xG := xG_tab 199 (by first | rfl | decide +kernel) rfl
theorem nlG_56 : Cond.methodLinkNest RG 56 yX_letterOf RX ∈ xNl := xN_tab 200 (by first | rfl | decide +kernel) rfl
theorem ksX_letterOf : Cond.static yX_letterOf ∈ xG := xG_tab 201 (by first | rfl | decide +kernel) rfl
theorem kcX_letterOf : Cond.code yX_letterOf cX_letterOf 2 (some .int) ∈ xG := xG_tab 202 (by first | rfl | decide +kernel) rfl
theorem klL_44 : Cond.methodLink RL 44 yX_generate ∈ xG := xG_tab 203 (by first | rfl | decide +kernel) rfl
theorem kiX_generate : Cond.instanceMethod yX_generate ∈ xG := xG_tab 204 (by first | rfl | decide +kernel) rfl
theorem keX_generate : Cond.selects RX yX_generate yX_generate ∈ xG := xG_tab 205 (by first | rfl | decide +kernel) rfl
theorem kcX_generate : Cond.code yX_generate cX_generate 3 (some .int) ∈ xG := xG_tab 206 (by first | rfl | decide +kernel) rfl
theorem nlX_74 : Cond.methodLinkNest RX 74 yD_begin RX ∈ xNl := xN_tab 207 (by first | rfl | decide +kernel) rfl
theorem kiD_begin : Cond.instanceMethod yD_begin ∈ xG := xG_tab 209 (by first | rfl | decide +kernel) rfl
theorem kcD_begin : Cond.code yD_begin cD_begin 1 none ∈ xG := xG_tab 210 (by first | rfl | decide +kernel) rfl
theorem klD_49 : Cond.methodLink RD 49 yJ_fill ∈ xG := xG_tab 211 (by first | rfl | decide +kernel) rfl
theorem nlX_77 : Cond.methodLinkNest RX 77 yD_addCopy RX ∈ xNl := xN_tab 212 (by first | rfl | decide +kernel) rfl
theorem kiD_addCopy : Cond.instanceMethod yD_addCopy ∈ xG := xG_tab 214 (by first | rfl | decide +kernel) rfl
theorem kcD_addCopy : Cond.code yD_addCopy cD_addCopy 6 none ∈ xG := xG_tab 215 (by first | rfl | decide +kernel) rfl
theorem nlD_58 : Cond.methodLinkNest RD 58 yG_way RX ∈ xNl := xN_tab 216 (by first | rfl | decide +kernel) rfl
theorem kiG_way : Cond.instanceMethod yG_way ∈ xG := xG_tab 218 (by first | rfl | decide +kernel) rfl
theorem kcG_way : Cond.code yG_way cG_way 3 (some .int) ∈ xG := xG_tab 219 (by first | rfl | decide +kernel) rfl
theorem klD_62 : Cond.methodLink RD 62 yD_addEdge ∈ xG := xG_tab 220 (by first | rfl | decide +kernel) rfl
theorem kiD_addEdge : Cond.instanceMethod yD_addEdge ∈ xG := xG_tab 222 (by first | rfl | decide +kernel) rfl
theorem kcD_addEdge : Cond.code yD_addEdge cD_addEdge 4 none ∈ xG := xG_tab 223 (by first | rfl | decide +kernel) rfl
theorem nlX_81 : Cond.methodLinkNest RX 81 yD_addRing RX ∈ xNl := xN_tab 224 (by first | rfl | decide +kernel) rfl
theorem kiD_addRing : Cond.instanceMethod yD_addRing ∈ xG := xG_tab 226 (by first | rfl | decide +kernel) rfl
theorem kcD_addRing : Cond.code yD_addRing cD_addRing 3 none ∈ xG := xG_tab 227 (by first | rfl | decide +kernel) rfl
theorem klD_69 : Cond.methodLink RD 69 yD_addRow ∈ xG := xG_tab 228 (by first | rfl | decide +kernel) rfl
theorem kiD_addRow : Cond.instanceMethod yD_addRow ∈ xG := xG_tab 230 (by first | rfl | decide +kernel) rfl
theorem kcD_addRow : Cond.code yD_addRow cD_addRow 5 (some .int) ∈ xG := xG_tab 231 (by first | rfl | decide +kernel) rfl
theorem nlD_76 : Cond.methodLinkNest RD 76 yX_codeOf RX ∈ xNl := xN_tab 232 (by first | rfl | decide +kernel) rfl
theorem ksX_codeOf : Cond.static yX_codeOf ∈ xG := xG_tab 233 (by first | rfl | decide +kernel) rfl
theorem kcX_codeOf : Cond.code yX_codeOf cX_codeOf 1 (some .int) ∈ xG := xG_tab 234 (by first | rfl | decide +kernel) rfl
theorem nlX_85 : Cond.methodLinkNest RX 85 yD_fold RX ∈ xNl := xN_tab 235 (by first | rfl | decide +kernel) rfl
theorem kiD_fold : Cond.instanceMethod yD_fold ∈ xG := xG_tab 237 (by first | rfl | decide +kernel) rfl
theorem kcD_fold : Cond.code yD_fold cD_fold 6 none ∈ xG := xG_tab 238 (by first | rfl | decide +kernel) rfl
theorem klD_80 : Cond.methodLink RD 80 yD_layWay ∈ xG := xG_tab 239 (by first | rfl | decide +kernel) rfl
theorem kiD_layWay : Cond.instanceMethod yD_layWay ∈ xG := xG_tab 241 (by first | rfl | decide +kernel) rfl
theorem kcD_layWay : Cond.code yD_layWay cD_layWay 6 (some .boolean) ∈ xG := xG_tab 242 (by first | rfl | decide +kernel) rfl
theorem klD_84 : Cond.methodLink RD 84 yD_unite ∈ xG := xG_tab 243 (by first | rfl | decide +kernel) rfl
theorem kiD_unite : Cond.instanceMethod yD_unite ∈ xG := xG_tab 245 (by first | rfl | decide +kernel) rfl
theorem kcD_unite : Cond.code yD_unite cD_unite 4 none ∈ xG := xG_tab 246 (by first | rfl | decide +kernel) rfl
theorem nlX_88 : Cond.methodLinkNest RX 88 yD_numberInto RX ∈ xNl := xN_tab 247 (by first | rfl | decide +kernel) rfl
theorem kiD_numberInto : Cond.instanceMethod yD_numberInto ∈ xG := xG_tab 249 (by first | rfl | decide +kernel) rfl
theorem kcD_numberInto : Cond.code yD_numberInto cD_numberInto 5 (some .int) ∈ xG := xG_tab 250 (by first | rfl | decide +kernel) rfl
theorem nlD_98 : Cond.methodLinkNest RD 98 yG_reset RX ∈ xNl := xN_tab 251 (by first | rfl | decide +kernel) rfl
theorem nlD_101 : Cond.methodLinkNest RD 101 yG_growTree RX ∈ xNl := xN_tab 252 (by first | rfl | decide +kernel) rfl
theorem kiG_growTree : Cond.instanceMethod yG_growTree ∈ xG := xG_tab 254 (by first | rfl | decide +kernel) rfl
theorem kcG_growTree : Cond.code yG_growTree cG_growTree 3 none ∈ xG := xG_tab 255 (by first | rfl | decide +kernel) rfl
theorem nlD_105 : Cond.methodLinkNest RD 105 yG_findBasis RX ∈ xNl := xN_tab 256 (by first | rfl | decide +kernel) rfl
theorem kiG_findBasis : Cond.instanceMethod yG_findBasis ∈ xG := xG_tab 258 (by first | rfl | decide +kernel) rfl
theorem kcG_findBasis : Cond.code yG_findBasis cG_findBasis 4 none ∈ xG := xG_tab 259 (by first | rfl | decide +kernel) rfl
theorem klG_49 : Cond.methodLink RG 49 yG_way ∈ xG := xG_tab 260 (by first | rfl | decide +kernel) rfl
theorem klL_48 : Cond.methodLink RL 48 yX_drop ∈ xG := xG_tab 261 (by first | rfl | decide +kernel) rfl
theorem kiX_drop : Cond.instanceMethod yX_drop ∈ xG := xG_tab 262 (by first | rfl | decide +kernel) rfl
theorem keX_drop : Cond.selects RX yX_drop yX_drop ∈ xG := xG_tab 263 (by first | rfl | decide +kernel) rfl
theorem kcX_drop : Cond.code yX_drop cX_drop 3 (some .int) ∈ xG := xG_tab 264 (by first | rfl | decide +kernel) rfl
theorem nlX_92 : Cond.methodLinkNest RX 92 yG_reset RX ∈ xNl := xN_tab 265 (by first | rfl | decide +kernel) rfl
theorem klL_52 : Cond.methodLink RL 52 yX_conjugate ∈ xG := xG_tab 266 (by first | rfl | decide +kernel) rfl
theorem kiX_conjugate : Cond.instanceMethod yX_conjugate ∈ xG := xG_tab 267 (by first | rfl | decide +kernel) rfl
theorem keX_conjugate : Cond.selects RX yX_conjugate yX_conjugate ∈ xG := xG_tab 268 (by first | rfl | decide +kernel) rfl
theorem kcX_conjugate : Cond.code yX_conjugate cX_conjugate 3 (some .int) ∈ xG := xG_tab 269 (by first | rfl | decide +kernel) rfl
theorem nlX_95 : Cond.methodLinkNest RX 95 yD_moveBaseAlong RX ∈ xNl := xN_tab 270 (by first | rfl | decide +kernel) rfl
theorem kiD_moveBaseAlong : Cond.instanceMethod yD_moveBaseAlong ∈ xG := xG_tab 272 (by first | rfl | decide +kernel) rfl
theorem kcD_moveBaseAlong : Cond.code yD_moveBaseAlong cD_moveBaseAlong 2 none ∈ xG := xG_tab 273 (by first | rfl | decide +kernel) rfl
theorem nlX_98 : Cond.methodLinkNest RX 98 yD_trim RX ∈ xNl := xN_tab 274 (by first | rfl | decide +kernel) rfl
theorem kiD_trim : Cond.instanceMethod yD_trim ∈ xG := xG_tab 276 (by first | rfl | decide +kernel) rfl
theorem kcD_trim : Cond.code yD_trim cD_trim 2 none ∈ xG := xG_tab 277 (by first | rfl | decide +kernel) rfl
theorem klD_91 : Cond.methodLink RD 91 yD_trimFrom ∈ xG := xG_tab 278 (by first | rfl | decide +kernel) rfl
theorem kiD_trimFrom : Cond.instanceMethod yD_trimFrom ∈ xG := xG_tab 280 (by first | rfl | decide +kernel) rfl
theorem kcD_trimFrom : Cond.code yD_trimFrom cD_trimFrom 6 none ∈ xG := xG_tab 281 (by first | rfl | decide +kernel) rfl
theorem klD_95 : Cond.methodLink RD 95 yD_onlyWay ∈ xG := xG_tab 282 (by first | rfl | decide +kernel) rfl
theorem kiD_onlyWay : Cond.instanceMethod yD_onlyWay ∈ xG := xG_tab 284 (by first | rfl | decide +kernel) rfl
theorem kcD_onlyWay : Cond.code yD_onlyWay cD_onlyWay 4 (some .int) ∈ xG := xG_tab 285 (by first | rfl | decide +kernel) rfl
theorem klL_56 : Cond.methodLink RL 56 yX_meet ∈ xG := xG_tab 286 (by first | rfl | decide +kernel) rfl
theorem kiX_meet : Cond.instanceMethod yX_meet ∈ xG := xG_tab 287 (by first | rfl | decide +kernel) rfl
theorem keX_meet : Cond.selects RX yX_meet yX_meet ∈ xG := xG_tab 288 (by first | rfl | decide +kernel) rfl
theorem kcX_meet : Cond.code yX_meet cX_meet 4 (some .int) ∈ xG := xG_tab 289 (by first | rfl | decide +kernel) rfl
theorem nlX_101 : Cond.methodLinkNest RX 101 yD_addPairs RX ∈ xNl := xN_tab 290 (by first | rfl | decide +kernel) rfl
theorem kiD_addPairs : Cond.instanceMethod yD_addPairs ∈ xG := xG_tab 292 (by first | rfl | decide +kernel) rfl
theorem kcD_addPairs : Cond.code yD_addPairs cD_addPairs 8 (some .boolean) ∈ xG := xG_tab 293 (by first | rfl | decide +kernel) rfl
theorem klD_88 : Cond.methodLink RD 88 yD_findOrAddPair ∈ xG := xG_tab 294 (by first | rfl | decide +kernel) rfl
theorem kiD_findOrAddPair : Cond.instanceMethod yD_findOrAddPair ∈ xG := xG_tab 296 (by first | rfl | decide +kernel) rfl
theorem kcD_findOrAddPair : Cond.code yD_findOrAddPair cD_findOrAddPair 4 (some .int) ∈ xG := xG_tab 297 (by first | rfl | decide +kernel) rfl
theorem klL_61 : Cond.methodLink RL 61 yX_join ∈ xG := xG_tab 298 (by first | rfl | decide +kernel) rfl
theorem kiX_join : Cond.instanceMethod yX_join ∈ xG := xG_tab 299 (by first | rfl | decide +kernel) rfl
theorem keX_join : Cond.selects RX yX_join yX_join ∈ xG := xG_tab 300 (by first | rfl | decide +kernel) rfl
theorem kcX_join : Cond.code yX_join cX_join 4 (some .int) ∈ xG := xG_tab 301 (by first | rfl | decide +kernel) rfl
theorem klL_65 : Cond.methodLink RL 65 yX_member ∈ xG := xG_tab 302 (by first | rfl | decide +kernel) rfl
theorem kiX_member : Cond.instanceMethod yX_member ∈ xG := xG_tab 303 (by first | rfl | decide +kernel) rfl
theorem keX_member : Cond.selects RX yX_member yX_member ∈ xG := xG_tab 304 (by first | rfl | decide +kernel) rfl
theorem kcX_member : Cond.code yX_member cX_member 2 (some .boolean) ∈ xG := xG_tab 305 (by first | rfl | decide +kernel) rfl
theorem klX_105 : Cond.methodLink RX 105 yX_trace ∈ xG := xG_tab 306 (by first | rfl | decide +kernel) rfl
theorem kiX_trace : Cond.instanceMethod yX_trace ∈ xG := xG_tab 307 (by first | rfl | decide +kernel) rfl
theorem keX_trace : Cond.selects RX yX_trace yX_trace ∈ xG := xG_tab 308 (by first | rfl | decide +kernel) rfl
theorem kcX_trace : Cond.code yX_trace cX_trace 4 (some .int) ∈ xG := xG_tab 309 (by first | rfl | decide +kernel) rfl
theorem klX_108 : Cond.methodLink RX 108 yX_codeOf ∈ xG := xG_tab 310 (by first | rfl | decide +kernel) rfl
theorem nlX_111 : Cond.methodLinkNest RX 111 yG_way RX ∈ xNl := xN_tab 311 (by first | rfl | decide +kernel) rfl
theorem klL_70 : Cond.methodLink RL 70 yX_trace ∈ xG := xG_tab 312 (by first | rfl | decide +kernel) rfl
theorem klL_74 : Cond.methodLink RL 74 yX_written ∈ xG := xG_tab 313 (by first | rfl | decide +kernel) rfl
theorem kiX_written : Cond.instanceMethod yX_written ∈ xG := xG_tab 314 (by first | rfl | decide +kernel) rfl
theorem keX_written : Cond.selects RX yX_written yX_written ∈ xG := xG_tab 315 (by first | rfl | decide +kernel) rfl
theorem kcX_written : Cond.code yX_written cX_written 9 (some .int) ∈ xG := xG_tab 316 (by first | rfl | decide +kernel) rfl
theorem klX_114 : Cond.methodLink RX 114 yX_member ∈ xG := xG_tab 317 (by first | rfl | decide +kernel) rfl
theorem klL_78 : Cond.methodLink RL 78 yX_length ∈ xG := xG_tab 318 (by first | rfl | decide +kernel) rfl
theorem klL_82 : Cond.methodLink RL 82 yX_basis ∈ xG := xG_tab 319 (by first | rfl | decide +kernel) rfl
theorem kiX_basis : Cond.instanceMethod yX_basis ∈ xG := xG_tab 320 (by first | rfl | decide +kernel) rfl
theorem keX_basis : Cond.selects RX yX_basis yX_basis ∈ xG := xG_tab 321 (by first | rfl | decide +kernel) rfl
theorem kcX_basis : Cond.code yX_basis cX_basis 4 (some .int) ∈ xG := xG_tab 322 (by first | rfl | decide +kernel) rfl
theorem klL_86 : Cond.methodLink RL 86 yX_target ∈ xG := xG_tab 323 (by first | rfl | decide +kernel) rfl
theorem kiX_target : Cond.instanceMethod yX_target ∈ xG := xG_tab 324 (by first | rfl | decide +kernel) rfl
theorem keX_target : Cond.selects RX yX_target yX_target ∈ xG := xG_tab 325 (by first | rfl | decide +kernel) rfl
theorem kcX_target : Cond.code yX_target cX_target 4 (some .int) ∈ xG := xG_tab 326 (by first | rfl | decide +kernel) rfl
theorem klL_90 : Cond.methodLink RL 90 yX_figure ∈ xG := xG_tab 327 (by first | rfl | decide +kernel) rfl
theorem kiX_figure : Cond.instanceMethod yX_figure ∈ xG := xG_tab 328 (by first | rfl | decide +kernel) rfl
theorem keX_figure : Cond.selects RX yX_figure yX_figure ∈ xG := xG_tab 329 (by first | rfl | decide +kernel) rfl
theorem kcX_figure : Cond.code yX_figure cX_figure 4 (some .int) ∈ xG := xG_tab 330 (by first | rfl | decide +kernel) rfl
theorem klX_129 : Cond.methodLink RX 129 yX_isComplete ∈ xG := xG_tab 331 (by first | rfl | decide +kernel) rfl
theorem kiX_isComplete : Cond.instanceMethod yX_isComplete ∈ xG := xG_tab 333 (by first | rfl | decide +kernel) rfl
theorem kcX_isComplete : Cond.code yX_isComplete cX_isComplete 2 (some .boolean) ∈ xG := xG_tab 334 (by first | rfl | decide +kernel) rfl
theorem klL_94 : Cond.methodLink RL 94 yX_contains ∈ xG := xG_tab 335 (by first | rfl | decide +kernel) rfl
theorem kiX_contains : Cond.instanceMethod yX_contains ∈ xG := xG_tab 336 (by first | rfl | decide +kernel) rfl
theorem keX_contains : Cond.selects RX yX_contains yX_contains ∈ xG := xG_tab 337 (by first | rfl | decide +kernel) rfl
theorem kcX_contains : Cond.code yX_contains cX_contains 3 (some .boolean) ∈ xG := xG_tab 338 (by first | rfl | decide +kernel) rfl
theorem nlX_133 : Cond.methodLinkNest RX 133 yG_liesUpon RX ∈ xNl := xN_tab 339 (by first | rfl | decide +kernel) rfl
theorem kiG_liesUpon : Cond.instanceMethod yG_liesUpon ∈ xG := xG_tab 341 (by first | rfl | decide +kernel) rfl
theorem kcG_liesUpon : Cond.code yG_liesUpon cG_liesUpon 6 (some .boolean) ∈ xG := xG_tab 342 (by first | rfl | decide +kernel) rfl
theorem klL_99 : Cond.methodLink RL 99 yX_normal ∈ xG := xG_tab 343 (by first | rfl | decide +kernel) rfl
theorem kiX_normal : Cond.instanceMethod yX_normal ∈ xG := xG_tab 344 (by first | rfl | decide +kernel) rfl
theorem keX_normal : Cond.selects RX yX_normal yX_normal ∈ xG := xG_tab 345 (by first | rfl | decide +kernel) rfl
theorem kcX_normal : Cond.code yX_normal cX_normal 4 (some .boolean) ∈ xG := xG_tab 346 (by first | rfl | decide +kernel) rfl
theorem klL_9 : Cond.methodLink RL 9 yL_cell ∈ xG := xG_tab 347 (by first | rfl | decide +kernel) rfl
theorem ksL_cell : Cond.static yL_cell ∈ xG := xG_tab 348 (by first | rfl | decide +kernel) rfl
theorem kcL_cell : Cond.code yL_cell cL_cell 2 (some .int) ∈ xG := xG_tab 349 (by first | rfl | decide +kernel) rfl
theorem kkL_18 : Cond.classLink RL 18 RM ∈ xG := xG_tab 350 (by first | rfl | decide +kernel) rfl
theorem kbM : Cond.instantiable RM 25 ∈ xG := xG_tab 351 (by first | rfl | decide +kernel) rfl
theorem klL_20 : Cond.methodLink RL 20 yM_init ∈ xG := xG_tab 352 (by first | rfl | decide +kernel) rfl
theorem kiM_init : Cond.instanceMethod yM_init ∈ xG := xG_tab 353 (by first | rfl | decide +kernel) rfl
theorem kcM_init : Cond.code yM_init cM_init 3 none ∈ xG := xG_tab 354 (by first | rfl | decide +kernel) rfl
theorem klM_1 : Cond.methodLink RM 1 objectInit ∈ xG := xG_tab 355 (by first | rfl | decide +kernel) rfl
theorem kfM_58 : Cond.fieldLink RM 58 RM "letters" "I" ∈ xG := xG_tab 356 (by first | rfl | decide +kernel) rfl
theorem kfM_66 : Cond.fieldLink RM 66 RM "size" "I" ∈ xG := xG_tab 357 (by first | rfl | decide +kernel) rfl
theorem kfM_7 : Cond.fieldLink RM 7 RM "word" "[I" ∈ xG := xG_tab 358 (by first | rfl | decide +kernel) rfl
theorem kfM_13 : Cond.fieldLink RM 13 RM "vertices" "[I" ∈ xG := xG_tab 359 (by first | rfl | decide +kernel) rfl
theorem kfM_16 : Cond.fieldLink RM 16 RM "ways" "[I" ∈ xG := xG_tab 360 (by first | rfl | decide +kernel) rfl
theorem kfM_19 : Cond.fieldLink RM 19 RM "parents" "[I" ∈ xG := xG_tab 361 (by first | rfl | decide +kernel) rfl
theorem kfM_22 : Cond.fieldLink RM 22 RM "arrivals" "[I" ∈ xG := xG_tab 362 (by first | rfl | decide +kernel) rfl
theorem kfM_25 : Cond.fieldLink RM 25 RM "depths" "[I" ∈ xG := xG_tab 363 (by first | rfl | decide +kernel) rfl
theorem kfM_69 : Cond.fieldLink RM 69 RM "raw" "I" ∈ xG := xG_tab 364 (by first | rfl | decide +kernel) rfl
theorem kfM_72 : Cond.fieldLink RM 72 RM "base" "I" ∈ xG := xG_tab 365 (by first | rfl | decide +kernel) rfl
theorem kfM_75 : Cond.fieldLink RM 75 RM "edges" "I" ∈ xG := xG_tab 366 (by first | rfl | decide +kernel) rfl
theorem kfM_28 : Cond.fieldLink RM 28 RM "from" "[I" ∈ xG := xG_tab 367 (by first | rfl | decide +kernel) rfl
theorem kfM_31 : Cond.fieldLink RM 31 RM "by" "[I" ∈ xG := xG_tab 368 (by first | rfl | decide +kernel) rfl
theorem kfM_34 : Cond.fieldLink RM 34 RM "to" "[I" ∈ xG := xG_tab 369 (by first | rfl | decide +kernel) rfl
theorem kfM_37 : Cond.fieldLink RM 37 RM "same" "[I" ∈ xG := xG_tab 370 (by first | rfl | decide +kernel) rfl
theorem kfM_40 : Cond.fieldLink RM 40 RM "table" "[I" ∈ xG := xG_tab 371 (by first | rfl | decide +kernel) rfl
theorem kfM_43 : Cond.fieldLink RM 43 RM "numbers" "[I" ∈ xG := xG_tab 372 (by first | rfl | decide +kernel) rfl
theorem kfM_46 : Cond.fieldLink RM 46 RM "order" "[I" ∈ xG := xG_tab 373 (by first | rfl | decide +kernel) rfl
theorem kfM_49 : Cond.fieldLink RM 49 RM "left" "[I" ∈ xG := xG_tab 374 (by first | rfl | decide +kernel) rfl
theorem kfM_52 : Cond.fieldLink RM 52 RM "right" "[I" ∈ xG := xG_tab 375 (by first | rfl | decide +kernel) rfl
theorem kfM_137 : Cond.fieldLink RM 137 RM "foundFrom" "I" ∈ xG := xG_tab 376 (by first | rfl | decide +kernel) rfl
theorem kfM_140 : Cond.fieldLink RM 140 RM "foundBy" "I" ∈ xG := xG_tab 377 (by first | rfl | decide +kernel) rfl
theorem kfM_143 : Cond.fieldLink RM 143 RM "foundTo" "I" ∈ xG := xG_tab 378 (by first | rfl | decide +kernel) rfl
theorem kfM_146 : Cond.fieldLink RM 146 RM "many" "I" ∈ xG := xG_tab 379 (by first | rfl | decide +kernel) rfl
theorem kfM_55 : Cond.fieldLink RM 55 RM "row" "[I" ∈ xG := xG_tab 380 (by first | rfl | decide +kernel) rfl
set_option maxRecDepth 20000 in
theorem klL_25 : Cond.methodLink RL 25 yM_letter ∈ xG := xG_tab 432 (by first | rfl | decide +kernel) rfl
set_option maxRecDepth 20000 in
theorem kiM_letter : Cond.instanceMethod yM_letter ∈ xG := xG_tab 433 (by first | rfl | decide +kernel) rfl
set_option maxRecDepth 20000 in
theorem keM_letter : Cond.selects RM yM_letter yM_letter ∈ xG := xG_tab 434 (by first | rfl | decide +kernel) rfl
set_option maxRecDepth 20000 in
theorem kcM_letter : Cond.code yM_letter cM_letter 2 (some .int) ∈ xG := xG_tab 435 (by first | rfl | decide +kernel) rfl
set_option maxRecDepth 20000 in
theorem klM_62 : Cond.methodLink RM 62 yM_isLetter ∈ xG := xG_tab 436 (by first | rfl | decide +kernel) rfl
set_option maxRecDepth 20000 in
theorem kiM_isLetter : Cond.instanceMethod yM_isLetter ∈ xG := xG_tab 438 (by first | rfl | decide +kernel) rfl
set_option maxRecDepth 20000 in
theorem kcM_isLetter : Cond.code yM_isLetter cM_isLetter 2 (some .boolean) ∈ xG := xG_tab 439 (by first | rfl | decide +kernel) rfl
set_option maxRecDepth 20000 in
theorem klL_30 : Cond.methodLink RL 30 yM_clear ∈ xG := xG_tab 440 (by first | rfl | decide +kernel) rfl
set_option maxRecDepth 20000 in
theorem kiM_clear : Cond.instanceMethod yM_clear ∈ xG := xG_tab 441 (by first | rfl | decide +kernel) rfl
set_option maxRecDepth 20000 in
theorem keM_clear : Cond.selects RM yM_clear yM_clear ∈ xG := xG_tab 442 (by first | rfl | decide +kernel) rfl
set_option maxRecDepth 20000 in
theorem kcM_clear : Cond.code yM_clear cM_clear 2 (some .int) ∈ xG := xG_tab 443 (by first | rfl | decide +kernel) rfl
set_option maxRecDepth 20000 in
theorem klL_34 : Cond.methodLink RL 34 yM_invert ∈ xG := xG_tab 444 (by first | rfl | decide +kernel) rfl
set_option maxRecDepth 20000 in
theorem kiM_invert : Cond.instanceMethod yM_invert ∈ xG := xG_tab 445 (by first | rfl | decide +kernel) rfl
set_option maxRecDepth 20000 in
theorem keM_invert : Cond.selects RM yM_invert yM_invert ∈ xG := xG_tab 446 (by first | rfl | decide +kernel) rfl
set_option maxRecDepth 20000 in
theorem kcM_invert : Cond.code yM_invert cM_invert 2 (some .int) ∈ xG := xG_tab 447 (by first | rfl | decide +kernel) rfl
set_option maxRecDepth 20000 in
theorem klL_38 : Cond.methodLink RL 38 yM_at ∈ xG := xG_tab 448 (by first | rfl | decide +kernel) rfl
set_option maxRecDepth 20000 in
theorem kiM_at : Cond.instanceMethod yM_at ∈ xG := xG_tab 449 (by first | rfl | decide +kernel) rfl
set_option maxRecDepth 20000 in
theorem keM_at : Cond.selects RM yM_at yM_at ∈ xG := xG_tab 450 (by first | rfl | decide +kernel) rfl
set_option maxRecDepth 20000 in
theorem kcM_at : Cond.code yM_at cM_at 2 (some .int) ∈ xG := xG_tab 451 (by first | rfl | decide +kernel) rfl
set_option maxRecDepth 20000 in
theorem klL_47 : Cond.methodLink RL 47 yM_generate ∈ xG := xG_tab 452 (by first | rfl | decide +kernel) rfl
set_option maxRecDepth 20000 in
theorem kiM_generate : Cond.instanceMethod yM_generate ∈ xG := xG_tab 453 (by first | rfl | decide +kernel) rfl
set_option maxRecDepth 20000 in
theorem keM_generate : Cond.selects RM yM_generate yM_generate ∈ xG := xG_tab 454 (by first | rfl | decide +kernel) rfl
set_option maxRecDepth 20000 in
theorem kcM_generate : Cond.code yM_generate cM_generate 4 (some .int) ∈ xG := xG_tab 455 (by first | rfl | decide +kernel) rfl
set_option maxRecDepth 20000 in
theorem klM_101 : Cond.methodLink RM 101 yM_isGroup ∈ xG := xG_tab 456 (by first | rfl | decide +kernel) rfl
set_option maxRecDepth 20000 in
theorem ksM_isGroup : Cond.static yM_isGroup ∈ xG := xG_tab 457 (by first | rfl | decide +kernel) rfl
set_option maxRecDepth 20000 in
theorem kcM_isGroup : Cond.code yM_isGroup cM_isGroup 1 (some .boolean) ∈ xG := xG_tab 458 (by first | rfl | decide +kernel) rfl
set_option maxRecDepth 20000 in
theorem klM_104 : Cond.methodLink RM 104 yM_begin ∈ xG := xG_tab 459 (by first | rfl | decide +kernel) rfl
set_option maxRecDepth 20000 in
theorem kiM_begin : Cond.instanceMethod yM_begin ∈ xG := xG_tab 461 (by first | rfl | decide +kernel) rfl
set_option maxRecDepth 20000 in
theorem kcM_begin : Cond.code yM_begin cM_begin 2 none ∈ xG := xG_tab 462 (by first | rfl | decide +kernel) rfl
set_option maxRecDepth 20000 in
theorem klM_108 : Cond.methodLink RM 108 yM_addCopy ∈ xG := xG_tab 463 (by first | rfl | decide +kernel) rfl
set_option maxRecDepth 20000 in
theorem kiM_addCopy : Cond.instanceMethod yM_addCopy ∈ xG := xG_tab 465 (by first | rfl | decide +kernel) rfl
set_option maxRecDepth 20000 in
theorem kcM_addCopy : Cond.code yM_addCopy cM_addCopy 6 none ∈ xG := xG_tab 466 (by first | rfl | decide +kernel) rfl
set_option maxRecDepth 20000 in
theorem klM_78 : Cond.methodLink RM 78 yM_numberOf ∈ xG := xG_tab 467 (by first | rfl | decide +kernel) rfl
set_option maxRecDepth 20000 in
theorem ksM_numberOf : Cond.static yM_numberOf ∈ xG := xG_tab 468 (by first | rfl | decide +kernel) rfl
set_option maxRecDepth 20000 in
theorem kcM_numberOf : Cond.code yM_numberOf cM_numberOf 1 (some .int) ∈ xG := xG_tab 469 (by first | rfl | decide +kernel) rfl
set_option maxRecDepth 20000 in
theorem klM_82 : Cond.methodLink RM 82 yM_way ∈ xG := xG_tab 470 (by first | rfl | decide +kernel) rfl
set_option maxRecDepth 20000 in
theorem kiM_way : Cond.instanceMethod yM_way ∈ xG := xG_tab 472 (by first | rfl | decide +kernel) rfl
set_option maxRecDepth 20000 in
theorem kcM_way : Cond.code yM_way cM_way 4 (some .int) ∈ xG := xG_tab 473 (by first | rfl | decide +kernel) rfl
set_option maxRecDepth 20000 in
theorem klM_86 : Cond.methodLink RM 86 yM_addEdge ∈ xG := xG_tab 474 (by first | rfl | decide +kernel) rfl
set_option maxRecDepth 20000 in
theorem kiM_addEdge : Cond.instanceMethod yM_addEdge ∈ xG := xG_tab 476 (by first | rfl | decide +kernel) rfl
set_option maxRecDepth 20000 in
theorem kcM_addEdge : Cond.code yM_addEdge cM_addEdge 4 none ∈ xG := xG_tab 477 (by first | rfl | decide +kernel) rfl
set_option maxRecDepth 20000 in
theorem klM_111 : Cond.methodLink RM 111 yM_fold ∈ xG := xG_tab 478 (by first | rfl | decide +kernel) rfl
set_option maxRecDepth 20000 in
theorem kiM_fold : Cond.instanceMethod yM_fold ∈ xG := xG_tab 480 (by first | rfl | decide +kernel) rfl
set_option maxRecDepth 20000 in
theorem kcM_fold : Cond.code yM_fold cM_fold 2 none ∈ xG := xG_tab 481 (by first | rfl | decide +kernel) rfl
set_option maxRecDepth 20000 in
theorem klM_94 : Cond.methodLink RM 94 yM_foldOnce ∈ xG := xG_tab 482 (by first | rfl | decide +kernel) rfl
set_option maxRecDepth 20000 in
theorem kiM_foldOnce : Cond.instanceMethod yM_foldOnce ∈ xG := xG_tab 484 (by first | rfl | decide +kernel) rfl
set_option maxRecDepth 20000 in
theorem kcM_foldOnce : Cond.code yM_foldOnce cM_foldOnce 7 (some .boolean) ∈ xG := xG_tab 485 (by first | rfl | decide +kernel) rfl
set_option maxRecDepth 20000 in
theorem klM_90 : Cond.methodLink RM 90 yM_unite ∈ xG := xG_tab 486 (by first | rfl | decide +kernel) rfl
set_option maxRecDepth 20000 in
theorem kiM_unite : Cond.instanceMethod yM_unite ∈ xG := xG_tab 488 (by first | rfl | decide +kernel) rfl
set_option maxRecDepth 20000 in
theorem kcM_unite : Cond.code yM_unite cM_unite 6 none ∈ xG := xG_tab 489 (by first | rfl | decide +kernel) rfl
set_option maxRecDepth 20000 in
theorem klM_114 : Cond.methodLink RM 114 yM_settle ∈ xG := xG_tab 490 (by first | rfl | decide +kernel) rfl
set_option maxRecDepth 20000 in
theorem kiM_settle : Cond.instanceMethod yM_settle ∈ xG := xG_tab 492 (by first | rfl | decide +kernel) rfl
set_option maxRecDepth 20000 in
theorem kcM_settle : Cond.code yM_settle cM_settle 6 (some .int) ∈ xG := xG_tab 493 (by first | rfl | decide +kernel) rfl
set_option maxRecDepth 20000 in
theorem klL_51 : Cond.methodLink RL 51 yM_drop ∈ xG := xG_tab 494 (by first | rfl | decide +kernel) rfl
set_option maxRecDepth 20000 in
theorem kiM_drop : Cond.instanceMethod yM_drop ∈ xG := xG_tab 495 (by first | rfl | decide +kernel) rfl
set_option maxRecDepth 20000 in
theorem keM_drop : Cond.selects RM yM_drop yM_drop ∈ xG := xG_tab 496 (by first | rfl | decide +kernel) rfl
set_option maxRecDepth 20000 in
theorem kcM_drop : Cond.code yM_drop cM_drop 4 (some .int) ∈ xG := xG_tab 497 (by first | rfl | decide +kernel) rfl
set_option maxRecDepth 20000 in
theorem klL_55 : Cond.methodLink RL 55 yM_conjugate ∈ xG := xG_tab 498 (by first | rfl | decide +kernel) rfl
set_option maxRecDepth 20000 in
theorem kiM_conjugate : Cond.instanceMethod yM_conjugate ∈ xG := xG_tab 499 (by first | rfl | decide +kernel) rfl
set_option maxRecDepth 20000 in
theorem keM_conjugate : Cond.selects RM yM_conjugate yM_conjugate ∈ xG := xG_tab 500 (by first | rfl | decide +kernel) rfl
set_option maxRecDepth 20000 in
theorem kcM_conjugate : Cond.code yM_conjugate cM_conjugate 5 (some .int) ∈ xG := xG_tab 501 (by first | rfl | decide +kernel) rfl
set_option maxRecDepth 20000 in
theorem klM_117 : Cond.methodLink RM 117 yM_trim ∈ xG := xG_tab 502 (by first | rfl | decide +kernel) rfl
set_option maxRecDepth 20000 in
theorem kiM_trim : Cond.instanceMethod yM_trim ∈ xG := xG_tab 504 (by first | rfl | decide +kernel) rfl
set_option maxRecDepth 20000 in
theorem kcM_trim : Cond.code yM_trim cM_trim 5 none ∈ xG := xG_tab 505 (by first | rfl | decide +kernel) rfl
set_option maxRecDepth 20000 in
theorem klM_98 : Cond.methodLink RM 98 yM_onlyWay ∈ xG := xG_tab 506 (by first | rfl | decide +kernel) rfl
set_option maxRecDepth 20000 in
theorem kiM_onlyWay : Cond.instanceMethod yM_onlyWay ∈ xG := xG_tab 508 (by first | rfl | decide +kernel) rfl
set_option maxRecDepth 20000 in
theorem kcM_onlyWay : Cond.code yM_onlyWay cM_onlyWay 5 (some .int) ∈ xG := xG_tab 509 (by first | rfl | decide +kernel) rfl
set_option maxRecDepth 20000 in
theorem klL_64 : Cond.methodLink RL 64 yM_join ∈ xG := xG_tab 510 (by first | rfl | decide +kernel) rfl
set_option maxRecDepth 20000 in
theorem kiM_join : Cond.instanceMethod yM_join ∈ xG := xG_tab 511 (by first | rfl | decide +kernel) rfl
set_option maxRecDepth 20000 in
theorem keM_join : Cond.selects RM yM_join yM_join ∈ xG := xG_tab 512 (by first | rfl | decide +kernel) rfl
set_option maxRecDepth 20000 in
theorem kcM_join : Cond.code yM_join cM_join 5 (some .int) ∈ xG := xG_tab 513 (by first | rfl | decide +kernel) rfl
set_option maxRecDepth 20000 in
theorem klL_60 : Cond.methodLink RL 60 yM_meet ∈ xG := xG_tab 514 (by first | rfl | decide +kernel) rfl
set_option maxRecDepth 20000 in
theorem kiM_meet : Cond.instanceMethod yM_meet ∈ xG := xG_tab 515 (by first | rfl | decide +kernel) rfl
set_option maxRecDepth 20000 in
theorem keM_meet : Cond.selects RM yM_meet yM_meet ∈ xG := xG_tab 516 (by first | rfl | decide +kernel) rfl
set_option maxRecDepth 20000 in
theorem kcM_meet : Cond.code yM_meet cM_meet 9 (some .int) ∈ xG := xG_tab 517 (by first | rfl | decide +kernel) rfl
set_option maxRecDepth 20000 in
theorem klM_120 : Cond.methodLink RM 120 yM_pair ∈ xG := xG_tab 518 (by first | rfl | decide +kernel) rfl
set_option maxRecDepth 20000 in
theorem kiM_pair : Cond.instanceMethod yM_pair ∈ xG := xG_tab 520 (by first | rfl | decide +kernel) rfl
set_option maxRecDepth 20000 in
theorem kcM_pair : Cond.code yM_pair cM_pair 4 (some .int) ∈ xG := xG_tab 521 (by first | rfl | decide +kernel) rfl
set_option maxRecDepth 20000 in
theorem klM_124 : Cond.methodLink RM 124 yM_letterOf ∈ xG := xG_tab 522 (by first | rfl | decide +kernel) rfl
set_option maxRecDepth 20000 in
theorem ksM_letterOf : Cond.static yM_letterOf ∈ xG := xG_tab 523 (by first | rfl | decide +kernel) rfl
set_option maxRecDepth 20000 in
theorem kcM_letterOf : Cond.code yM_letterOf cM_letterOf 1 (some .int) ∈ xG := xG_tab 524 (by first | rfl | decide +kernel) rfl
set_option maxRecDepth 20000 in
theorem klL_73 : Cond.methodLink RL 73 yM_trace ∈ xG := xG_tab 525 (by first | rfl | decide +kernel) rfl
set_option maxRecDepth 20000 in
theorem kiM_trace : Cond.instanceMethod yM_trace ∈ xG := xG_tab 526 (by first | rfl | decide +kernel) rfl
set_option maxRecDepth 20000 in
theorem keM_trace : Cond.selects RM yM_trace yM_trace ∈ xG := xG_tab 527 (by first | rfl | decide +kernel) rfl
set_option maxRecDepth 20000 in
theorem kcM_trace : Cond.code yM_trace cM_trace 2 (some .int) ∈ xG := xG_tab 528 (by first | rfl | decide +kernel) rfl
set_option maxRecDepth 20000 in
theorem klM_127 : Cond.methodLink RM 127 yM_walk ∈ xG := xG_tab 529 (by first | rfl | decide +kernel) rfl
set_option maxRecDepth 20000 in
theorem kiM_walk : Cond.instanceMethod yM_walk ∈ xG := xG_tab 531 (by first | rfl | decide +kernel) rfl
set_option maxRecDepth 20000 in
theorem kcM_walk : Cond.code yM_walk cM_walk 4 (some .int) ∈ xG := xG_tab 532 (by first | rfl | decide +kernel) rfl
set_option maxRecDepth 20000 in
theorem klL_69 : Cond.methodLink RL 69 yM_member ∈ xG := xG_tab 533 (by first | rfl | decide +kernel) rfl
set_option maxRecDepth 20000 in
theorem kiM_member : Cond.instanceMethod yM_member ∈ xG := xG_tab 534 (by first | rfl | decide +kernel) rfl
set_option maxRecDepth 20000 in
theorem keM_member : Cond.selects RM yM_member yM_member ∈ xG := xG_tab 535 (by first | rfl | decide +kernel) rfl
set_option maxRecDepth 20000 in
theorem kcM_member : Cond.code yM_member cM_member 2 (some .boolean) ∈ xG := xG_tab 536 (by first | rfl | decide +kernel) rfl
set_option maxRecDepth 20000 in
theorem klL_43 : Cond.methodLink RL 43 yM_take ∈ xG := xG_tab 537 (by first | rfl | decide +kernel) rfl
set_option maxRecDepth 20000 in
theorem kiM_take : Cond.instanceMethod yM_take ∈ xG := xG_tab 538 (by first | rfl | decide +kernel) rfl
set_option maxRecDepth 20000 in
theorem keM_take : Cond.selects RM yM_take yM_take ∈ xG := xG_tab 539 (by first | rfl | decide +kernel) rfl
set_option maxRecDepth 20000 in
theorem kcM_take : Cond.code yM_take cM_take 4 (some .int) ∈ xG := xG_tab 540 (by first | rfl | decide +kernel) rfl
set_option maxRecDepth 20000 in
theorem klM_155 : Cond.methodLink RM 155 yM_find ∈ xG := xG_tab 541 (by first | rfl | decide +kernel) rfl
set_option maxRecDepth 20000 in
theorem kiM_find : Cond.instanceMethod yM_find ∈ xG := xG_tab 543 (by first | rfl | decide +kernel) rfl
set_option maxRecDepth 20000 in
theorem kcM_find : Cond.code yM_find cM_find 7 (some .boolean) ∈ xG := xG_tab 544 (by first | rfl | decide +kernel) rfl
set_option maxRecDepth 20000 in
theorem klM_130 : Cond.methodLink RM 130 yM_isTree ∈ xG := xG_tab 545 (by first | rfl | decide +kernel) rfl
set_option maxRecDepth 20000 in
theorem kiM_isTree : Cond.instanceMethod yM_isTree ∈ xG := xG_tab 547 (by first | rfl | decide +kernel) rfl
set_option maxRecDepth 20000 in
theorem kcM_isTree : Cond.code yM_isTree cM_isTree 6 (some .boolean) ∈ xG := xG_tab 548 (by first | rfl | decide +kernel) rfl
set_option maxRecDepth 20000 in
theorem klM_159 : Cond.methodLink RM 159 yM_putElement ∈ xG := xG_tab 549 (by first | rfl | decide +kernel) rfl
set_option maxRecDepth 20000 in
theorem kiM_putElement : Cond.instanceMethod yM_putElement ∈ xG := xG_tab 551 (by first | rfl | decide +kernel) rfl
set_option maxRecDepth 20000 in
theorem kcM_putElement : Cond.code yM_putElement cM_putElement 3 none ∈ xG := xG_tab 552 (by first | rfl | decide +kernel) rfl
set_option maxRecDepth 20000 in
theorem klM_152 : Cond.methodLink RM 152 yM_putWay ∈ xG := xG_tab 553 (by first | rfl | decide +kernel) rfl
set_option maxRecDepth 20000 in
theorem kiM_putWay : Cond.instanceMethod yM_putWay ∈ xG := xG_tab 555 (by first | rfl | decide +kernel) rfl
set_option maxRecDepth 20000 in
theorem kcM_putWay : Cond.code yM_putWay cM_putWay 5 none ∈ xG := xG_tab 556 (by first | rfl | decide +kernel) rfl
set_option maxRecDepth 20000 in
theorem klM_149 : Cond.methodLink RM 149 yM_put ∈ xG := xG_tab 557 (by first | rfl | decide +kernel) rfl
set_option maxRecDepth 20000 in
theorem kiM_put : Cond.instanceMethod yM_put ∈ xG := xG_tab 559 (by first | rfl | decide +kernel) rfl
set_option maxRecDepth 20000 in
theorem kcM_put : Cond.code yM_put cM_put 2 none ∈ xG := xG_tab 560 (by first | rfl | decide +kernel) rfl
set_option maxRecDepth 20000 in
theorem klL_81 : Cond.methodLink RL 81 yM_length ∈ xG := xG_tab 561 (by first | rfl | decide +kernel) rfl
set_option maxRecDepth 20000 in
theorem kiM_length : Cond.instanceMethod yM_length ∈ xG := xG_tab 562 (by first | rfl | decide +kernel) rfl
set_option maxRecDepth 20000 in
theorem keM_length : Cond.selects RM yM_length yM_length ∈ xG := xG_tab 563 (by first | rfl | decide +kernel) rfl
set_option maxRecDepth 20000 in
theorem kcM_length : Cond.code yM_length cM_length 3 (some .int) ∈ xG := xG_tab 564 (by first | rfl | decide +kernel) rfl
set_option maxRecDepth 20000 in
theorem klL_85 : Cond.methodLink RL 85 yM_basis ∈ xG := xG_tab 565 (by first | rfl | decide +kernel) rfl
set_option maxRecDepth 20000 in
theorem kiM_basis : Cond.instanceMethod yM_basis ∈ xG := xG_tab 566 (by first | rfl | decide +kernel) rfl
set_option maxRecDepth 20000 in
theorem keM_basis : Cond.selects RM yM_basis yM_basis ∈ xG := xG_tab 567 (by first | rfl | decide +kernel) rfl
set_option maxRecDepth 20000 in
theorem kcM_basis : Cond.code yM_basis cM_basis 4 (some .int) ∈ xG := xG_tab 568 (by first | rfl | decide +kernel) rfl
set_option maxRecDepth 20000 in
theorem klL_77 : Cond.methodLink RL 77 yM_written ∈ xG := xG_tab 569 (by first | rfl | decide +kernel) rfl
set_option maxRecDepth 20000 in
theorem kiM_written : Cond.instanceMethod yM_written ∈ xG := xG_tab 570 (by first | rfl | decide +kernel) rfl
set_option maxRecDepth 20000 in
theorem keM_written : Cond.selects RM yM_written yM_written ∈ xG := xG_tab 571 (by first | rfl | decide +kernel) rfl
set_option maxRecDepth 20000 in
theorem kcM_written : Cond.code yM_written cM_written 8 (some .int) ∈ xG := xG_tab 572 (by first | rfl | decide +kernel) rfl
set_option maxRecDepth 20000 in
theorem klM_134 : Cond.methodLink RM 134 yM_elementsBefore ∈ xG := xG_tab 573 (by first | rfl | decide +kernel) rfl
set_option maxRecDepth 20000 in
theorem kiM_elementsBefore : Cond.instanceMethod yM_elementsBefore ∈ xG := xG_tab 575 (by first | rfl | decide +kernel) rfl
set_option maxRecDepth 20000 in
theorem kcM_elementsBefore : Cond.code yM_elementsBefore cM_elementsBefore 8 (some .int) ∈ xG := xG_tab 576 (by first | rfl | decide +kernel) rfl
set_option maxRecDepth 20000 in
theorem klL_89 : Cond.methodLink RL 89 yM_target ∈ xG := xG_tab 577 (by first | rfl | decide +kernel) rfl
set_option maxRecDepth 20000 in
theorem kiM_target : Cond.instanceMethod yM_target ∈ xG := xG_tab 578 (by first | rfl | decide +kernel) rfl
set_option maxRecDepth 20000 in
theorem keM_target : Cond.selects RM yM_target yM_target ∈ xG := xG_tab 579 (by first | rfl | decide +kernel) rfl
set_option maxRecDepth 20000 in
theorem kcM_target : Cond.code yM_target cM_target 4 (some .int) ∈ xG := xG_tab 580 (by first | rfl | decide +kernel) rfl
set_option maxRecDepth 20000 in
theorem klL_93 : Cond.methodLink RL 93 yM_figure ∈ xG := xG_tab 581 (by first | rfl | decide +kernel) rfl
set_option maxRecDepth 20000 in
theorem kiM_figure : Cond.instanceMethod yM_figure ∈ xG := xG_tab 582 (by first | rfl | decide +kernel) rfl
set_option maxRecDepth 20000 in
theorem keM_figure : Cond.selects RM yM_figure yM_figure ∈ xG := xG_tab 583 (by first | rfl | decide +kernel) rfl
set_option maxRecDepth 20000 in
theorem kcM_figure : Cond.code yM_figure cM_figure 6 (some .int) ∈ xG := xG_tab 584 (by first | rfl | decide +kernel) rfl
set_option maxRecDepth 20000 in
theorem klM_162 : Cond.methodLink RM 162 yM_elements ∈ xG := xG_tab 585 (by first | rfl | decide +kernel) rfl
set_option maxRecDepth 20000 in
theorem kiM_elements : Cond.instanceMethod yM_elements ∈ xG := xG_tab 587 (by first | rfl | decide +kernel) rfl
set_option maxRecDepth 20000 in
theorem kcM_elements : Cond.code yM_elements cM_elements 2 (some .int) ∈ xG := xG_tab 588 (by first | rfl | decide +kernel) rfl
set_option maxRecDepth 20000 in
theorem klL_98 : Cond.methodLink RL 98 yM_contains ∈ xG := xG_tab 589 (by first | rfl | decide +kernel) rfl
set_option maxRecDepth 20000 in
theorem kiM_contains : Cond.instanceMethod yM_contains ∈ xG := xG_tab 590 (by first | rfl | decide +kernel) rfl
set_option maxRecDepth 20000 in
theorem keM_contains : Cond.selects RM yM_contains yM_contains ∈ xG := xG_tab 591 (by first | rfl | decide +kernel) rfl
set_option maxRecDepth 20000 in
theorem kcM_contains : Cond.code yM_contains cM_contains 7 (some .boolean) ∈ xG := xG_tab 592 (by first | rfl | decide +kernel) rfl
set_option maxRecDepth 20000 in
theorem klM_165 : Cond.methodLink RM 165 yM_leadsBack ∈ xG := xG_tab 593 (by first | rfl | decide +kernel) rfl
set_option maxRecDepth 20000 in
theorem kiM_leadsBack : Cond.instanceMethod yM_leadsBack ∈ xG := xG_tab 595 (by first | rfl | decide +kernel) rfl
set_option maxRecDepth 20000 in
theorem kcM_leadsBack : Cond.code yM_leadsBack cM_leadsBack 4 (some .boolean) ∈ xG := xG_tab 596 (by first | rfl | decide +kernel) rfl
set_option maxRecDepth 20000 in
theorem klL_102 : Cond.methodLink RL 102 yM_normal ∈ xG := xG_tab 597 (by first | rfl | decide +kernel) rfl
set_option maxRecDepth 20000 in
theorem kiM_normal : Cond.instanceMethod yM_normal ∈ xG := xG_tab 598 (by first | rfl | decide +kernel) rfl
set_option maxRecDepth 20000 in
theorem keM_normal : Cond.selects RM yM_normal yM_normal ∈ xG := xG_tab 599 (by first | rfl | decide +kernel) rfl
set_option maxRecDepth 20000 in
theorem kcM_normal : Cond.code yM_normal cM_normal 7 (some .boolean) ∈ xG := xG_tab 600 (by first | rfl | decide +kernel) rfl
theorem keG_reset : Cond.selects RG yG_reset yG_reset ∈ xG := xG_sel 0 (by first | rfl | decide +kernel) rfl
theorem keX_isLetter : Cond.selects RX yX_isLetter yX_isLetter ∈ xG := xG_sel 1 (by first | rfl | decide +kernel) rfl
theorem keW_append : Cond.selects RW yW_append yW_append ∈ xG := xG_sel 2 (by first | rfl | decide +kernel) rfl
theorem keW_turnRound : Cond.selects RW yW_turnRound yW_turnRound ∈ xG := xG_sel 3 (by first | rfl | decide +kernel) rfl
theorem keX_isSubgroup : Cond.selects RX yX_isSubgroup yX_isSubgroup ∈ xG := xG_sel 4 (by first | rfl | decide +kernel) rfl
theorem keG_slotOfElement : Cond.selects RG yG_slotOfElement yG_slotOfElement ∈ xG := xG_sel 5 (by first | rfl | decide +kernel) rfl
theorem keG_elementSize : Cond.selects RG yG_elementSize yG_elementSize ∈ xG := xG_sel 6 (by first | rfl | decide +kernel) rfl
theorem keG_elementLetter : Cond.selects RG yG_elementLetter yG_elementLetter ∈ xG := xG_sel 7 (by first | rfl | decide +kernel) rfl
theorem keG_climb : Cond.selects RG yG_climb yG_climb ∈ xG := xG_sel 8 (by first | rfl | decide +kernel) rfl
theorem keD_begin : Cond.selects RD yD_begin yD_begin ∈ xG := xG_sel 9 (by first | rfl | decide +kernel) rfl
theorem keD_addCopy : Cond.selects RD yD_addCopy yD_addCopy ∈ xG := xG_sel 10 (by first | rfl | decide +kernel) rfl
theorem keG_way : Cond.selects RG yG_way yG_way ∈ xG := xG_sel 11 (by first | rfl | decide +kernel) rfl
theorem keD_addEdge : Cond.selects RD yD_addEdge yD_addEdge ∈ xG := xG_sel 12 (by first | rfl | decide +kernel) rfl
theorem keD_addRing : Cond.selects RD yD_addRing yD_addRing ∈ xG := xG_sel 13 (by first | rfl | decide +kernel) rfl
theorem keD_addRow : Cond.selects RD yD_addRow yD_addRow ∈ xG := xG_sel 14 (by first | rfl | decide +kernel) rfl
theorem keD_fold : Cond.selects RD yD_fold yD_fold ∈ xG := xG_sel 15 (by first | rfl | decide +kernel) rfl
theorem keD_layWay : Cond.selects RD yD_layWay yD_layWay ∈ xG := xG_sel 16 (by first | rfl | decide +kernel) rfl
theorem keD_unite : Cond.selects RD yD_unite yD_unite ∈ xG := xG_sel 17 (by first | rfl | decide +kernel) rfl
theorem keD_numberInto : Cond.selects RD yD_numberInto yD_numberInto ∈ xG := xG_sel 18 (by first | rfl | decide +kernel) rfl
theorem keG_growTree : Cond.selects RG yG_growTree yG_growTree ∈ xG := xG_sel 19 (by first | rfl | decide +kernel) rfl
theorem keG_findBasis : Cond.selects RG yG_findBasis yG_findBasis ∈ xG := xG_sel 20 (by first | rfl | decide +kernel) rfl
theorem keD_moveBaseAlong : Cond.selects RD yD_moveBaseAlong yD_moveBaseAlong ∈ xG := xG_sel 21 (by first | rfl | decide +kernel) rfl
theorem keD_trim : Cond.selects RD yD_trim yD_trim ∈ xG := xG_sel 22 (by first | rfl | decide +kernel) rfl
theorem keD_trimFrom : Cond.selects RD yD_trimFrom yD_trimFrom ∈ xG := xG_sel 23 (by first | rfl | decide +kernel) rfl
theorem keD_onlyWay : Cond.selects RD yD_onlyWay yD_onlyWay ∈ xG := xG_sel 24 (by first | rfl | decide +kernel) rfl
theorem keD_addPairs : Cond.selects RD yD_addPairs yD_addPairs ∈ xG := xG_sel 25 (by first | rfl | decide +kernel) rfl
theorem keD_findOrAddPair : Cond.selects RD yD_findOrAddPair yD_findOrAddPair ∈ xG := xG_sel 26 (by first | rfl | decide +kernel) rfl
theorem keX_isComplete : Cond.selects RX yX_isComplete yX_isComplete ∈ xG := xG_sel 27 (by first | rfl | decide +kernel) rfl
theorem keG_liesUpon : Cond.selects RG yG_liesUpon yG_liesUpon ∈ xG := xG_sel 28 (by first | rfl | decide +kernel) rfl
theorem keM_isLetter : Cond.selects RM yM_isLetter yM_isLetter ∈ xG := xG_sel 29 (by first | rfl | decide +kernel) rfl
theorem keM_begin : Cond.selects RM yM_begin yM_begin ∈ xG := xG_sel 30 (by first | rfl | decide +kernel) rfl
theorem keM_addCopy : Cond.selects RM yM_addCopy yM_addCopy ∈ xG := xG_sel 31 (by first | rfl | decide +kernel) rfl
theorem keM_way : Cond.selects RM yM_way yM_way ∈ xG := xG_sel 32 (by first | rfl | decide +kernel) rfl
theorem keM_addEdge : Cond.selects RM yM_addEdge yM_addEdge ∈ xG := xG_sel 33 (by first | rfl | decide +kernel) rfl
theorem keM_fold : Cond.selects RM yM_fold yM_fold ∈ xG := xG_sel 34 (by first | rfl | decide +kernel) rfl
theorem keM_foldOnce : Cond.selects RM yM_foldOnce yM_foldOnce ∈ xG := xG_sel 35 (by first | rfl | decide +kernel) rfl
theorem keM_unite : Cond.selects RM yM_unite yM_unite ∈ xG := xG_sel 36 (by first | rfl | decide +kernel) rfl
theorem keM_settle : Cond.selects RM yM_settle yM_settle ∈ xG := xG_sel 37 (by first | rfl | decide +kernel) rfl
theorem keM_trim : Cond.selects RM yM_trim yM_trim ∈ xG := xG_sel 38 (by first | rfl | decide +kernel) rfl
theorem keM_onlyWay : Cond.selects RM yM_onlyWay yM_onlyWay ∈ xG := xG_sel 39 (by first | rfl | decide +kernel) rfl
theorem keM_pair : Cond.selects RM yM_pair yM_pair ∈ xG := xG_sel 40 (by first | rfl | decide +kernel) rfl
theorem keM_walk : Cond.selects RM yM_walk yM_walk ∈ xG := xG_sel 41 (by first | rfl | decide +kernel) rfl
theorem keM_find : Cond.selects RM yM_find yM_find ∈ xG := xG_sel 42 (by first | rfl | decide +kernel) rfl
theorem keM_isTree : Cond.selects RM yM_isTree yM_isTree ∈ xG := xG_sel 43 (by first | rfl | decide +kernel) rfl
theorem keM_putElement : Cond.selects RM yM_putElement yM_putElement ∈ xG := xG_sel 44 (by first | rfl | decide +kernel) rfl
theorem keM_putWay : Cond.selects RM yM_putWay yM_putWay ∈ xG := xG_sel 45 (by first | rfl | decide +kernel) rfl
theorem keM_put : Cond.selects RM yM_put yM_put ∈ xG := xG_sel 46 (by first | rfl | decide +kernel) rfl
theorem keM_elementsBefore : Cond.selects RM yM_elementsBefore yM_elementsBefore ∈ xG := xG_sel 47 (by first | rfl | decide +kernel) rfl
theorem keM_elements : Cond.selects RM yM_elements yM_elements ∈ xG := xG_sel 48 (by first | rfl | decide +kernel) rfl
theorem keM_leadsBack : Cond.selects RM yM_leadsBack yM_leadsBack ∈ xG := xG_sel 49 (by first | rfl | decide +kernel) rfl
end
section
/-- an int by its number -/
def iI (z : Int) : Int32 := Int32.ofInt z
abbrev ir (z : Int) : Prop := -2147483648 ≤ z ∧ z ≤ 2147483647
theorem iI_0 : iI 0 = 0 := by decide
theorem iI_add (x y : Int) : iI x + iI y = iI (x + y) := (Int32.ofInt_add x y).symm
theorem iI_sub (x y : Int) : iI x - iI y = iI (x - y) := (Int32.ofInt_sub x y).symm
theorem iI_mul (x y : Int) : iI x * iI y = iI (x * y) := (Int32.ofInt_mul x y).symm
theorem iI_neg (x : Int) : -iI x = iI (-x) := (Int32.ofInt_neg x).symm
theorem iI_toInt {x : Int} (h : ir x) : (iI x).toInt = x := Int32.toInt_ofInt_of_le (by have := h.1; omega) (by have := h.2; omega)
theorem iI_of (v : Int32) : iI v.toInt = v := Int32.ofInt_toInt v
theorem iI_ir (v : Int32) : ir v.toInt := ⟨by have := v.le_toInt; omega, by have := v.toInt_lt; omega⟩
theorem iI_le {x y : Int} (hx : ir x) (hy : ir y) : iI x ≤ iI y ↔ x ≤ y := by rw [Int32.le_iff_toInt_le, iI_toInt hx, iI_toInt hy]
theorem iI_lt {x y : Int} (hx : ir x) (hy : ir y) : iI x < iI y ↔ x < y := by rw [Int32.lt_iff_toInt_lt, iI_toInt hx, iI_toInt hy]
theorem iI_eq {x y : Int} (hx : ir x) (hy : ir y) : iI x = iI y ↔ x = y := by rw [← Int32.toInt_inj, iI_toInt hx, iI_toInt hy]
theorem ir_0 : ir 0 := by constructor <;> decide
theorem iI_clamp {x : Int} (h : ir x) : (iI x).toNatClampNeg = x.toNat := Int32.toNatClampNeg_ofInt_of_le (by have := h.1; omega) (by have := h.2; omega)
theorem iI_in {i : Int} {n : Nat} (h0 : 0 ≤ i) (h1 : i < n) (hn : n ≤ 2147483647) : vp_in (iI i) n := by
  have hi : ir i := by constructor <;> omega
  rintro (h | h)
  · rw [← iI_0, iI_lt hi ir_0] at h
    omega
  · rw [iI_clamp hi] at h
    omega
theorem iI_upd (g : Nat → Int) {i x : Int} (hi : ir i) : upd (fun j => iI (g j)) (iI i).toNatClampNeg (iI x) = fun j => iI (va_up g i.toNat x j) := by
  funext j
  rw [iI_clamp hi]
  unfold upd va_up
  split <;> rfl
/-- the code of the inverse letter -/
def cx (c : Int) : Int := c + 1 - 2 * (c % 2)
theorem iI_xor1 {c : Int} (h0 : 0 ≤ c) (h6 : c < 6) : iI c ^^^ iI 1 = iI (cx c) := by
  have : c = 0 ∨ c = 1 ∨ c = 2 ∨ c = 3 ∨ c = 4 ∨ c = 5 := by omega
  rcases this with rfl | rfl | rfl | rfl | rfl | rfl <;> decide
theorem iI_and1 {c : Int} (h0 : 0 ≤ c) (h6 : c < 6) : iI c &&& iI 1 = iI (c % 2) := by
  have : c = 0 ∨ c = 1 ∨ c = 2 ∨ c = 3 ∨ c = 4 ∨ c = 5 := by omega
  rcases this with rfl | rfl | rfl | rfl | rfl | rfl <;> decide
theorem iI_shr1 {c : Int} (h0 : 0 ≤ c) (h6 : c < 6) : iI c >>> (iI 1 &&& 31) = iI (c / 2) := by
  have : c = 0 ∨ c = 1 ∨ c = 2 ∨ c = 3 ∨ c = 4 ∨ c = 5 := by omega
  rcases this with rfl | rfl | rfl | rfl | rfl | rfl <;> decide
theorem iI_div {x y : Int} (h0 : 0 ≤ x) (hx : x ≤ 2147483647) (hy : 0 < y) (hy2 : y ≤ 2147483647) : iI x / iI y = iI (x / y) := by
  have h := Int32.ofInt_tdiv (a := x) (b := y) (by have : Int32.minValue.toInt = -2147483648 := by decide
                                                   omega) (by have : Int32.maxValue.toInt = 2147483647 := by decide
                                                              omega) (by have : Int32.minValue.toInt = -2147483648 := by decide
                                                                         omega) (by have : Int32.maxValue.toInt = 2147483647 := by decide
                                                                                    omega)
  rw [Int.tdiv_eq_ediv_of_nonneg h0] at h
  exact h.symm
theorem iI_rem {x y : Int} (h0 : 0 ≤ x) (hx : x ≤ 2147483647) (hy : 0 < y) (hy2 : y ≤ 2147483647) : iI x - iI x / iI y * iI y = iI (x % y) := by
  rw [iI_div h0 hx hy hy2, iI_mul, iI_sub]
  have h := Int.emod_def x y
  rw [h, Int.mul_comm]
theorem iI_ne0 {y : Int} (hy : 0 < y) (hy2 : y ≤ 2147483647) : ¬ iI y = 0 := by
  rw [← iI_0, iI_eq ⟨by omega, hy2⟩ ir_0]
  omega
/-- states: int fields by object and place, int arrays by object and place -/
abbrev fS : Type := Nat → Nat → Int
abbrev aS : Type := Nat → Nat → Nat → Int
def setF (f : fS) (o k : Nat) (v : Int) : fS := fun o' k' => if o' = o ∧ k' = k then v else f o' k'
def setA (a : aS) (o k : Nat) (g : Nat → Int) : aS := fun o' k' => if o' = o ∧ k' = k then g else a o' k'
theorem setF_s (f : fS) (o k : Nat) (v : Int) : setF f o k v o k = v := by simp [setF]
theorem setA_s (a : aS) (o k : Nat) (g : Nat → Int) : setA a o k g o k = g := by simp [setA]
theorem setF_o (f : fS) {o k o' k' : Nat} (v : Int) (h : o' ≠ o) : setF f o k v o' k' = f o' k' := by simp [setF, h]
theorem setA_o (a : aS) {o k o' k' : Nat} (g : Nat → Int) (h : o' ≠ o) : setA a o k g o' k' = a o' k' := by simp [setA, h]
theorem setF_k (f : fS) {o k o' k' : Nat} (v : Int) (h : k' ≠ k) : setF f o k v o' k' = f o' k' := by simp [setF, h]
theorem setA_k (a : aS) {o k o' k' : Nat} (g : Nat → Int) (h : k' ≠ k) : setA a o k g o' k' = a o' k' := by simp [setA, h]
section
variable {p : Program} {l : Launch} {e : Env} {R : Room} {s : State} {m : MethodId} {args : Array Value} {below : List Frame} {meth : Method} {c : Code} {H0 : Heap} {A : Nat → Prop} {cells slots : Nat} {Q : State → Prop} {D : va_G} {cl : List vw_C} {tys : List (ClassId × FieldType)} {nL : Nat} {w w' : va_W} {lv lv' : List (Nat × Value)} {pc : Nat} {st : List Value} {cc : ByteArray}
/-- from every heap that holds the world w, and locals lv: the machine at pc with stack st comes to Q -/
def xV (p : Program) (l : Launch) (e : Env) (R : Room) (s : State) (m : MethodId) (args : Array Value) (below : List Frame) (meth : Method) (c : Code) (H0 : Heap) (A : Nat → Prop) (cells slots : Nat) (Q : State → Prop) (D : va_G) (cl : List vw_C) (nL : Nat) (w : va_W) (lv : List (Nat × Value)) (pc : Nat) (st : List Value) : Prop :=
  ∀ (H : Heap) (locs : List Loc) (ls : Array Slot), va_P D cl w H → va_D A w → va_S A H0 H locs → lv_has ls nL lv → W p l e R s m args below meth c H locs cells slots Q (F0 m pc ls st)
theorem x_sub (ks : List Nat) (h : lv_pick lv ks = lv') (k : xV p l e R s m args below meth c H0 A cells slots Q D cl nL w lv' pc st) : xV p l e R s m args below meth c H0 A cells slots Q D cl nL w lv pc st :=
  fun H locs ls hP hD hS hl => k H locs ls hP hD hS (lv_sub hl ks h)
theorem x_iconst (hx : p.tables.exec = Jvm.exec) (hb : c.code = cc) {n : Int} (hd : decode cc pc = .ok (.iconst n, 1)) (k : xV p l e R s m args below meth c H0 A cells slots Q D cl nL w lv (pc + 1) (.int (iI n) :: st)) : xV p l e R s m args below meth c H0 A cells slots Q D cl nL w lv pc st :=
  fun H locs ls hP hD hS hl => lv_iconst hx hb hd rfl (k H locs ls hP hD hS hl)
theorem x_bipush (hx : p.tables.exec = Jvm.exec) (hb : c.code = cc) {n : Int} (hd : decode cc pc = .ok (.bipush n, 2)) (hv : (Int8.ofInt n).toInt32 = iI n) (k : xV p l e R s m args below meth c H0 A cells slots Q D cl nL w lv (pc + 2) (.int (iI n) :: st)) : xV p l e R s m args below meth c H0 A cells slots Q D cl nL w lv pc st :=
  fun H locs ls hP hD hS hl => lv_bipush hx hb hd hv (k H locs ls hP hD hS hl)
theorem x_sipush (hx : p.tables.exec = Jvm.exec) (hb : c.code = cc) {n : Int} (hd : decode cc pc = .ok (.sipush n, 3)) (hv : (Int16.ofInt n).toInt32 = iI n) (k : xV p l e R s m args below meth c H0 A cells slots Q D cl nL w lv (pc + 3) (.int (iI n) :: st)) : xV p l e R s m args below meth c H0 A cells slots Q D cl nL w lv pc st :=
  fun H locs ls hP hD hS hl => lv_sipush hx hb hd hv (k H locs ls hP hD hS hl)
theorem x_iload_n (hx : p.tables.exec = Jvm.exec) (hb : c.code = cc) {k' : Fin 4} {i : Nat} {v : Int32} (hd : decode cc pc = .ok (.iload_n k', 1)) (hi : (k' : Nat) = i) (q : Nat) (hq : lv[q]? = some (i, .int v)) (k : xV p l e R s m args below meth c H0 A cells slots Q D cl nL w lv (pc + 1) (.int v :: st)) : xV p l e R s m args below meth c H0 A cells slots Q D cl nL w lv pc st :=
  fun H locs ls hP hD hS hl => lv_iload_n hx hb hd hi (lv_at hl q hq) (k H locs ls hP hD hS hl)
theorem x_iload (hx : p.tables.exec = Jvm.exec) (hb : c.code = cc) {i : Nat} {v : Int32} (hd : decode cc pc = .ok (.iload i, 2)) (q : Nat) (hq : lv[q]? = some (i, .int v)) (k : xV p l e R s m args below meth c H0 A cells slots Q D cl nL w lv (pc + 2) (.int v :: st)) : xV p l e R s m args below meth c H0 A cells slots Q D cl nL w lv pc st :=
  fun H locs ls hP hD hS hl => lv_iload hx hb hd (lv_at hl q hq) (k H locs ls hP hD hS hl)
theorem x_istore_n (hx : p.tables.exec = Jvm.exec) (hb : c.code = cc) {k' : Fin 4} {i : Nat} {v : Int32} (hd : decode cc pc = .ok (.istore_n k', 1)) (hi : (k' : Nat) = i) (hn : i < nL) (hl' : (i, Value.int v) :: lv.filter (fun q => !(q.1 == i) && !(q.1 + 1 == i && q.2.category == 2)) = lv') (k : xV p l e R s m args below meth c H0 A cells slots Q D cl nL w lv' (pc + 1) st) : xV p l e R s m args below meth c H0 A cells slots Q D cl nL w lv pc (.int v :: st) :=
  fun H locs ls hP hD hS hl => lv_istore_n hx hb hd hi hl hn hl' (fun ls' h' => k H locs ls' hP hD hS h')
theorem x_istore (hx : p.tables.exec = Jvm.exec) (hb : c.code = cc) {i : Nat} {v : Int32} (hd : decode cc pc = .ok (.istore i, 2)) (hn : i < nL) (hl' : (i, Value.int v) :: lv.filter (fun q => !(q.1 == i) && !(q.1 + 1 == i && q.2.category == 2)) = lv') (k : xV p l e R s m args below meth c H0 A cells slots Q D cl nL w lv' (pc + 2) st) : xV p l e R s m args below meth c H0 A cells slots Q D cl nL w lv pc (.int v :: st) :=
  fun H locs ls hP hD hS hl => lv_istore hx hb hd hl hn hl' (fun ls' h' => k H locs ls' hP hD hS h')
theorem x_aload_n (hx : p.tables.exec = Jvm.exec) (hb : c.code = cc) {k' : Fin 4} {i : Nat} {v : Nat} (hd : decode cc pc = .ok (.aload_n k', 1)) (hi : (k' : Nat) = i) (q : Nat) (hq : lv[q]? = some (i, .ref v)) (k : xV p l e R s m args below meth c H0 A cells slots Q D cl nL w lv (pc + 1) (.ref v :: st)) : xV p l e R s m args below meth c H0 A cells slots Q D cl nL w lv pc st :=
  fun H locs ls hP hD hS hl => lv_aload_n hx hb hd hi (lv_at hl q hq) (k H locs ls hP hD hS hl)
theorem x_aload (hx : p.tables.exec = Jvm.exec) (hb : c.code = cc) {i : Nat} {v : Nat} (hd : decode cc pc = .ok (.aload i, 2)) (q : Nat) (hq : lv[q]? = some (i, .ref v)) (k : xV p l e R s m args below meth c H0 A cells slots Q D cl nL w lv (pc + 2) (.ref v :: st)) : xV p l e R s m args below meth c H0 A cells slots Q D cl nL w lv pc st :=
  fun H locs ls hP hD hS hl => lv_aload hx hb hd (lv_at hl q hq) (k H locs ls hP hD hS hl)
theorem x_astore_n (hx : p.tables.exec = Jvm.exec) (hb : c.code = cc) {k' : Fin 4} {i : Nat} {v : Nat} (hd : decode cc pc = .ok (.astore_n k', 1)) (hi : (k' : Nat) = i) (hn : i < nL) (hl' : (i, Value.ref v) :: lv.filter (fun q => !(q.1 == i) && !(q.1 + 1 == i && q.2.category == 2)) = lv') (k : xV p l e R s m args below meth c H0 A cells slots Q D cl nL w lv' (pc + 1) st) : xV p l e R s m args below meth c H0 A cells slots Q D cl nL w lv pc (.ref v :: st) :=
  fun H locs ls hP hD hS hl => lv_astore_n hx hb hd hi hl hn hl' (fun ls' h' => k H locs ls' hP hD hS h')
theorem x_astore (hx : p.tables.exec = Jvm.exec) (hb : c.code = cc) {i : Nat} {v : Nat} (hd : decode cc pc = .ok (.astore i, 2)) (hn : i < nL) (hl' : (i, Value.ref v) :: lv.filter (fun q => !(q.1 == i) && !(q.1 + 1 == i && q.2.category == 2)) = lv') (k : xV p l e R s m args below meth c H0 A cells slots Q D cl nL w lv' (pc + 2) st) : xV p l e R s m args below meth c H0 A cells slots Q D cl nL w lv pc (.ref v :: st) :=
  fun H locs ls hP hD hS hl => lv_astore hx hb hd hl hn hl' (fun ls' h' => k H locs ls' hP hD hS h')
theorem x_iinc (hx : p.tables.exec = Jvm.exec) (hb : c.code = cc) {i : Nat} {n x : Int} (hd : decode cc pc = .ok (.iinc i n, 3)) (q : Nat) (hq : lv[q]? = some (i, .int (iI x))) (hn : i < nL) (hl' : (i, Value.int (iI (x + n))) :: lv.filter (fun q => !(q.1 == i) && !(q.1 + 1 == i && q.2.category == 2)) = lv') (k : xV p l e R s m args below meth c H0 A cells slots Q D cl nL w lv' (pc + 3) st) : xV p l e R s m args below meth c H0 A cells slots Q D cl nL w lv pc st :=
  fun H locs ls hP hD hS hl => lv_iinc hx hb hd hl hq (iI_add x n) hn hl' (fun ls' h' => k H locs ls' hP hD hS h')
theorem x_iadd (hx : p.tables.exec = Jvm.exec) (hb : c.code = cc) {x y : Int} (hd : decode cc pc = .ok (.iadd, 1)) (k : xV p l e R s m args below meth c H0 A cells slots Q D cl nL w lv (pc + 1) (.int (iI (x + y)) :: st)) : xV p l e R s m args below meth c H0 A cells slots Q D cl nL w lv pc (.int (iI y) :: .int (iI x) :: st) :=
  fun H locs ls hP hD hS hl => lv_iadd hx hb hd (by rw [iI_add]; exact k H locs ls hP hD hS hl)
theorem x_isub (hx : p.tables.exec = Jvm.exec) (hb : c.code = cc) {x y : Int} (hd : decode cc pc = .ok (.isub, 1)) (k : xV p l e R s m args below meth c H0 A cells slots Q D cl nL w lv (pc + 1) (.int (iI (x - y)) :: st)) : xV p l e R s m args below meth c H0 A cells slots Q D cl nL w lv pc (.int (iI y) :: .int (iI x) :: st) :=
  fun H locs ls hP hD hS hl => lv_isub hx hb hd (by rw [iI_sub]; exact k H locs ls hP hD hS hl)
theorem x_imul (hx : p.tables.exec = Jvm.exec) (hb : c.code = cc) {x y : Int} (hd : decode cc pc = .ok (.imul, 1)) (k : xV p l e R s m args below meth c H0 A cells slots Q D cl nL w lv (pc + 1) (.int (iI (x * y)) :: st)) : xV p l e R s m args below meth c H0 A cells slots Q D cl nL w lv pc (.int (iI y) :: .int (iI x) :: st) :=
  fun H locs ls hP hD hS hl => lv_imul hx hb hd (by rw [iI_mul]; exact k H locs ls hP hD hS hl)
theorem x_ineg (hx : p.tables.exec = Jvm.exec) (hb : c.code = cc) {x : Int} (hd : decode cc pc = .ok (.ineg, 1)) (k : xV p l e R s m args below meth c H0 A cells slots Q D cl nL w lv (pc + 1) (.int (iI (-x)) :: st)) : xV p l e R s m args below meth c H0 A cells slots Q D cl nL w lv pc (.int (iI x) :: st) :=
  fun H locs ls hP hD hS hl => lv_ineg hx hb hd (by rw [iI_neg]; exact k H locs ls hP hD hS hl)
theorem x_idiv (hx : p.tables.exec = Jvm.exec) (hb : c.code = cc) {x y : Int} (h0 : 0 ≤ x) (h1 : x ≤ 2147483647) (h2 : 0 < y) (h3 : y ≤ 2147483647) (hd : decode cc pc = .ok (.idiv, 1)) (k : xV p l e R s m args below meth c H0 A cells slots Q D cl nL w lv (pc + 1) (.int (iI (x / y)) :: st)) : xV p l e R s m args below meth c H0 A cells slots Q D cl nL w lv pc (.int (iI y) :: .int (iI x) :: st) :=
  fun H locs ls hP hD hS hl => lv_idiv hx hb hd (iI_ne0 h2 h3) (by rw [iI_div h0 h1 h2 h3]; exact k H locs ls hP hD hS hl)
theorem x_irem (hx : p.tables.exec = Jvm.exec) (hb : c.code = cc) {x y : Int} (h0 : 0 ≤ x) (h1 : x ≤ 2147483647) (h2 : 0 < y) (h3 : y ≤ 2147483647) (hd : decode cc pc = .ok (.irem, 1)) (k : xV p l e R s m args below meth c H0 A cells slots Q D cl nL w lv (pc + 1) (.int (iI (x % y)) :: st)) : xV p l e R s m args below meth c H0 A cells slots Q D cl nL w lv pc (.int (iI y) :: .int (iI x) :: st) :=
  fun H locs ls hP hD hS hl => lv_irem hx hb hd (iI_ne0 h2 h3) (by rw [iI_rem h0 h1 h2 h3]; exact k H locs ls hP hD hS hl)
theorem x_ixor1 (hx : p.tables.exec = Jvm.exec) (hb : c.code = cc) {x : Int} (h0 : 0 ≤ x) (h6 : x < 6) (hd : decode cc pc = .ok (.ixor, 1)) (k : xV p l e R s m args below meth c H0 A cells slots Q D cl nL w lv (pc + 1) (.int (iI (cx x)) :: st)) : xV p l e R s m args below meth c H0 A cells slots Q D cl nL w lv pc (.int (iI 1) :: .int (iI x) :: st) :=
  fun H locs ls hP hD hS hl => lv_ixor hx hb hd (by rw [iI_xor1 h0 h6]; exact k H locs ls hP hD hS hl)
theorem x_iand1 (hx : p.tables.exec = Jvm.exec) (hb : c.code = cc) {x : Int} (h0 : 0 ≤ x) (h6 : x < 6) (hd : decode cc pc = .ok (.iand, 1)) (k : xV p l e R s m args below meth c H0 A cells slots Q D cl nL w lv (pc + 1) (.int (iI (x % 2)) :: st)) : xV p l e R s m args below meth c H0 A cells slots Q D cl nL w lv pc (.int (iI 1) :: .int (iI x) :: st) :=
  fun H locs ls hP hD hS hl => lv_iand hx hb hd (by rw [iI_and1 h0 h6]; exact k H locs ls hP hD hS hl)
theorem x_ishr1 (hx : p.tables.exec = Jvm.exec) (hb : c.code = cc) {x : Int} (h0 : 0 ≤ x) (h6 : x < 6) (hd : decode cc pc = .ok (.ishr, 1)) (k : xV p l e R s m args below meth c H0 A cells slots Q D cl nL w lv (pc + 1) (.int (iI (x / 2)) :: st)) : xV p l e R s m args below meth c H0 A cells slots Q D cl nL w lv pc (.int (iI 1) :: .int (iI x) :: st) :=
  fun H locs ls hP hD hS hl => lv_ishr hx hb hd (by rw [iI_shr1 h0 h6]; exact k H locs ls hP hD hS hl)
theorem x_dup (hx : p.tables.exec = Jvm.exec) (hb : c.code = cc) {a : Value} (ha : a.category = 1) (hd : decode cc pc = .ok (.dup, 1)) (k : xV p l e R s m args below meth c H0 A cells slots Q D cl nL w lv (pc + 1) (a :: a :: st)) : xV p l e R s m args below meth c H0 A cells slots Q D cl nL w lv pc (a :: st) :=
  fun H locs ls hP hD hS hl => lv_dup hx hb hd ha (k H locs ls hP hD hS hl)
theorem x_pop (hx : p.tables.exec = Jvm.exec) (hb : c.code = cc) {a : Value} (ha : a.category = 1) (hd : decode cc pc = .ok (.pop, 1)) (k : xV p l e R s m args below meth c H0 A cells slots Q D cl nL w lv (pc + 1) st) : xV p l e R s m args below meth c H0 A cells slots Q D cl nL w lv pc (a :: st) :=
  fun H locs ls hP hD hS hl => lv_pop hx hb hd ha (k H locs ls hP hD hS hl)
theorem x_dup_x1 (hx : p.tables.exec = Jvm.exec) (hb : c.code = cc) {a b : Value} (ha : a.category = 1) (hb' : b.category = 1) (hd : decode cc pc = .ok (.dup_x1, 1)) (k : xV p l e R s m args below meth c H0 A cells slots Q D cl nL w lv (pc + 1) (a :: b :: a :: st)) : xV p l e R s m args below meth c H0 A cells slots Q D cl nL w lv pc (a :: b :: st) :=
  fun H locs ls hP hD hS hl => lv_dup_x1 hx hb hd ha hb' (k H locs ls hP hD hS hl)
theorem x_goto (hx : p.tables.exec = Jvm.exec) (hb : c.code = cc) {off : Int} {tgt : Nat} (hd : decode cc pc = .ok (.goto off, 3)) (ht : (pc : Int) + off = (tgt : Int)) (k : xV p l e R s m args below meth c H0 A cells slots Q D cl nL w lv tgt st) : xV p l e R s m args below meth c H0 A cells slots Q D cl nL w lv pc st :=
  fun H locs ls hP hD hS hl => lv_goto hx hb hd ht (k H locs ls hP hD hS hl)
theorem x_icmp_eq (hx : p.tables.exec = Jvm.exec) (hb : c.code = cc) {x y off : Int} {tgt : Nat} (h1 : ir x) (h2 : ir y) (hd : decode cc pc = .ok (.if_icmp .eq off, 3)) (ht : (pc : Int) + off = (tgt : Int)) (kt : (x = y) → xV p l e R s m args below meth c H0 A cells slots Q D cl nL w lv tgt st) (kf : ¬ (x = y) → xV p l e R s m args below meth c H0 A cells slots Q D cl nL w lv (pc + 3) st) : xV p l e R s m args below meth c H0 A cells slots Q D cl nL w lv pc (.int (iI y) :: .int (iI x) :: st) :=
  fun H locs ls hP hD hS hl => lv_icmp_eq hx hb hd ht (fun h => kt ((iI_eq h1 h2).mp h) H locs ls hP hD hS hl) (fun h => kf (fun q => h ((iI_eq h1 h2).mpr q)) H locs ls hP hD hS hl)
theorem x_icmp_ne (hx : p.tables.exec = Jvm.exec) (hb : c.code = cc) {x y off : Int} {tgt : Nat} (h1 : ir x) (h2 : ir y) (hd : decode cc pc = .ok (.if_icmp .ne off, 3)) (ht : (pc : Int) + off = (tgt : Int)) (kt : (¬ x = y) → xV p l e R s m args below meth c H0 A cells slots Q D cl nL w lv tgt st) (kf : ¬ (¬ x = y) → xV p l e R s m args below meth c H0 A cells slots Q D cl nL w lv (pc + 3) st) : xV p l e R s m args below meth c H0 A cells slots Q D cl nL w lv pc (.int (iI y) :: .int (iI x) :: st) :=
  fun H locs ls hP hD hS hl => lv_icmp_ne hx hb hd ht (fun h => kt ((not_congr (iI_eq h1 h2)).mp h) H locs ls hP hD hS hl) (fun h => kf (fun q => q ((iI_eq h1 h2).mp h)) H locs ls hP hD hS hl)
theorem x_icmp_lt (hx : p.tables.exec = Jvm.exec) (hb : c.code = cc) {x y off : Int} {tgt : Nat} (h1 : ir x) (h2 : ir y) (hd : decode cc pc = .ok (.if_icmp .lt off, 3)) (ht : (pc : Int) + off = (tgt : Int)) (kt : (x < y) → xV p l e R s m args below meth c H0 A cells slots Q D cl nL w lv tgt st) (kf : ¬ (x < y) → xV p l e R s m args below meth c H0 A cells slots Q D cl nL w lv (pc + 3) st) : xV p l e R s m args below meth c H0 A cells slots Q D cl nL w lv pc (.int (iI y) :: .int (iI x) :: st) :=
  fun H locs ls hP hD hS hl => lv_icmp_lt hx hb hd ht (fun h => kt ((iI_lt h1 h2).mp h) H locs ls hP hD hS hl) (fun h => kf (fun q => h ((iI_lt h1 h2).mpr q)) H locs ls hP hD hS hl)
theorem x_icmp_ge (hx : p.tables.exec = Jvm.exec) (hb : c.code = cc) {x y off : Int} {tgt : Nat} (h1 : ir x) (h2 : ir y) (hd : decode cc pc = .ok (.if_icmp .ge off, 3)) (ht : (pc : Int) + off = (tgt : Int)) (kt : (y ≤ x) → xV p l e R s m args below meth c H0 A cells slots Q D cl nL w lv tgt st) (kf : ¬ (y ≤ x) → xV p l e R s m args below meth c H0 A cells slots Q D cl nL w lv (pc + 3) st) : xV p l e R s m args below meth c H0 A cells slots Q D cl nL w lv pc (.int (iI y) :: .int (iI x) :: st) :=
  fun H locs ls hP hD hS hl => lv_icmp_ge hx hb hd ht (fun h => kt ((iI_le h2 h1).mp h) H locs ls hP hD hS hl) (fun h => kf (fun q => h ((iI_le h2 h1).mpr q)) H locs ls hP hD hS hl)
theorem x_icmp_gt (hx : p.tables.exec = Jvm.exec) (hb : c.code = cc) {x y off : Int} {tgt : Nat} (h1 : ir x) (h2 : ir y) (hd : decode cc pc = .ok (.if_icmp .gt off, 3)) (ht : (pc : Int) + off = (tgt : Int)) (kt : (y < x) → xV p l e R s m args below meth c H0 A cells slots Q D cl nL w lv tgt st) (kf : ¬ (y < x) → xV p l e R s m args below meth c H0 A cells slots Q D cl nL w lv (pc + 3) st) : xV p l e R s m args below meth c H0 A cells slots Q D cl nL w lv pc (.int (iI y) :: .int (iI x) :: st) :=
  fun H locs ls hP hD hS hl => lv_icmp_gt hx hb hd ht (fun h => kt ((iI_lt h2 h1).mp h) H locs ls hP hD hS hl) (fun h => kf (fun q => h ((iI_lt h2 h1).mpr q)) H locs ls hP hD hS hl)
theorem x_icmp_le (hx : p.tables.exec = Jvm.exec) (hb : c.code = cc) {x y off : Int} {tgt : Nat} (h1 : ir x) (h2 : ir y) (hd : decode cc pc = .ok (.if_icmp .le off, 3)) (ht : (pc : Int) + off = (tgt : Int)) (kt : (x ≤ y) → xV p l e R s m args below meth c H0 A cells slots Q D cl nL w lv tgt st) (kf : ¬ (x ≤ y) → xV p l e R s m args below meth c H0 A cells slots Q D cl nL w lv (pc + 3) st) : xV p l e R s m args below meth c H0 A cells slots Q D cl nL w lv pc (.int (iI y) :: .int (iI x) :: st) :=
  fun H locs ls hP hD hS hl => lv_icmp_le hx hb hd ht (fun h => kt ((iI_le h1 h2).mp h) H locs ls hP hD hS hl) (fun h => kf (fun q => h ((iI_le h1 h2).mpr q)) H locs ls hP hD hS hl)
theorem x_if_eq (hx : p.tables.exec = Jvm.exec) (hb : c.code = cc) {x off : Int} {tgt : Nat} (h1 : ir x) (hd : decode cc pc = .ok (.ifCond .eq off, 3)) (ht : (pc : Int) + off = (tgt : Int)) (kt : (x = 0) → xV p l e R s m args below meth c H0 A cells slots Q D cl nL w lv tgt st) (kf : ¬ (x = 0) → xV p l e R s m args below meth c H0 A cells slots Q D cl nL w lv (pc + 3) st) : xV p l e R s m args below meth c H0 A cells slots Q D cl nL w lv pc (.int (iI x) :: st) :=
  fun H locs ls hP hD hS hl => lv_if_eq hx hb hd ht (fun h => kt ((iI_eq h1 ir_0).mp (by rw [iI_0]; exact h)) H locs ls hP hD hS hl) (fun h => kf (fun q => h (by rw [← iI_0]; exact (iI_eq h1 ir_0).mpr q)) H locs ls hP hD hS hl)
theorem x_if_ne (hx : p.tables.exec = Jvm.exec) (hb : c.code = cc) {x off : Int} {tgt : Nat} (h1 : ir x) (hd : decode cc pc = .ok (.ifCond .ne off, 3)) (ht : (pc : Int) + off = (tgt : Int)) (kt : (¬ x = 0) → xV p l e R s m args below meth c H0 A cells slots Q D cl nL w lv tgt st) (kf : ¬ (¬ x = 0) → xV p l e R s m args below meth c H0 A cells slots Q D cl nL w lv (pc + 3) st) : xV p l e R s m args below meth c H0 A cells slots Q D cl nL w lv pc (.int (iI x) :: st) :=
  fun H locs ls hP hD hS hl => lv_if_ne hx hb hd ht (fun h => kt ((not_congr (iI_eq h1 ir_0)).mp (by rw [iI_0]; exact h)) H locs ls hP hD hS hl) (fun h => kf (fun q => q ((iI_eq h1 ir_0).mp (by rw [iI_0]; exact h))) H locs ls hP hD hS hl)
theorem x_if_lt (hx : p.tables.exec = Jvm.exec) (hb : c.code = cc) {x off : Int} {tgt : Nat} (h1 : ir x) (hd : decode cc pc = .ok (.ifCond .lt off, 3)) (ht : (pc : Int) + off = (tgt : Int)) (kt : (x < 0) → xV p l e R s m args below meth c H0 A cells slots Q D cl nL w lv tgt st) (kf : ¬ (x < 0) → xV p l e R s m args below meth c H0 A cells slots Q D cl nL w lv (pc + 3) st) : xV p l e R s m args below meth c H0 A cells slots Q D cl nL w lv pc (.int (iI x) :: st) :=
  fun H locs ls hP hD hS hl => lv_if_lt hx hb hd ht (fun h => kt ((iI_lt h1 ir_0).mp (by rw [iI_0]; exact h)) H locs ls hP hD hS hl) (fun h => kf (fun q => h (by rw [← iI_0]; exact (iI_lt h1 ir_0).mpr q)) H locs ls hP hD hS hl)
theorem x_if_ge (hx : p.tables.exec = Jvm.exec) (hb : c.code = cc) {x off : Int} {tgt : Nat} (h1 : ir x) (hd : decode cc pc = .ok (.ifCond .ge off, 3)) (ht : (pc : Int) + off = (tgt : Int)) (kt : (0 ≤ x) → xV p l e R s m args below meth c H0 A cells slots Q D cl nL w lv tgt st) (kf : ¬ (0 ≤ x) → xV p l e R s m args below meth c H0 A cells slots Q D cl nL w lv (pc + 3) st) : xV p l e R s m args below meth c H0 A cells slots Q D cl nL w lv pc (.int (iI x) :: st) :=
  fun H locs ls hP hD hS hl => lv_if_ge hx hb hd ht (fun h => kt ((iI_le ir_0 h1).mp (by rw [iI_0]; exact h)) H locs ls hP hD hS hl) (fun h => kf (fun q => h (by rw [← iI_0]; exact (iI_le ir_0 h1).mpr q)) H locs ls hP hD hS hl)
theorem x_if_gt (hx : p.tables.exec = Jvm.exec) (hb : c.code = cc) {x off : Int} {tgt : Nat} (h1 : ir x) (hd : decode cc pc = .ok (.ifCond .gt off, 3)) (ht : (pc : Int) + off = (tgt : Int)) (kt : (0 < x) → xV p l e R s m args below meth c H0 A cells slots Q D cl nL w lv tgt st) (kf : ¬ (0 < x) → xV p l e R s m args below meth c H0 A cells slots Q D cl nL w lv (pc + 3) st) : xV p l e R s m args below meth c H0 A cells slots Q D cl nL w lv pc (.int (iI x) :: st) :=
  fun H locs ls hP hD hS hl => lv_if_gt hx hb hd ht (fun h => kt ((iI_lt ir_0 h1).mp (by rw [iI_0]; exact h)) H locs ls hP hD hS hl) (fun h => kf (fun q => h (by rw [← iI_0]; exact (iI_lt ir_0 h1).mpr q)) H locs ls hP hD hS hl)
theorem x_if_le (hx : p.tables.exec = Jvm.exec) (hb : c.code = cc) {x off : Int} {tgt : Nat} (h1 : ir x) (hd : decode cc pc = .ok (.ifCond .le off, 3)) (ht : (pc : Int) + off = (tgt : Int)) (kt : (x ≤ 0) → xV p l e R s m args below meth c H0 A cells slots Q D cl nL w lv tgt st) (kf : ¬ (x ≤ 0) → xV p l e R s m args below meth c H0 A cells slots Q D cl nL w lv (pc + 3) st) : xV p l e R s m args below meth c H0 A cells slots Q D cl nL w lv pc (.int (iI x) :: st) :=
  fun H locs ls hP hD hS hl => lv_if_le hx hb hd ht (fun h => kt ((iI_le h1 ir_0).mp (by rw [iI_0]; exact h)) H locs ls hP hD hS hl) (fun h => kf (fun q => h (by rw [← iI_0]; exact (iI_le h1 ir_0).mpr q)) H locs ls hP hD hS hl)
theorem x_topi {x : Int} (k : ∀ y : Int, y = x → xV p l e R s m args below meth c H0 A cells slots Q D cl nL w lv pc (.int (iI y) :: st)) : xV p l e R s m args below meth c H0 A cells slots Q D cl nL w lv pc (.int (iI x) :: st) :=
  k x rfl
theorem x_topo {ad : Nat → Nat → Nat} {x : Nat} (k : ∀ y : Nat, y = x → xV p l e R s m args below meth c H0 A cells slots Q D cl nL w lv pc (.ref (ad y 0) :: st)) : xV p l e R s m args below meth c H0 A cells slots Q D cl nL w lv pc (.ref (ad x 0) :: st) :=
  k x rfl
theorem x_eqi {x y : Int} (h : x = y) (k : xV p l e R s m args below meth c H0 A cells slots Q D cl nL w lv pc (.int (iI y) :: st)) : xV p l e R s m args below meth c H0 A cells slots Q D cl nL w lv pc (.int (iI x) :: st) :=
  h ▸ k
theorem iI_mmax {x y : Int} (h1 : ir x) (h2 : ir y) : (if iI x < iI y then iI y else iI x) = iI (max x y) := by
  by_cases h : x < y
  · rw [if_pos ((iI_lt h1 h2).mpr h)]
    congr 1
    omega
  · rw [if_neg (fun z => h ((iI_lt h1 h2).mp z))]
    congr 1
    omega
theorem x_mmax (hx : p.tables.exec = Jvm.exec) (hb : c.code = cc) (hml : c.maxLocals = nL) {own : String} {index : Nat} (hown : s.vm.findClass own = some m.cls) (hlink : (Cond.methodLink own index Lib.Math.max.name).before args s = true) (hstat : (Cond.static Lib.Math.max.name).before args s = true) (hini : (Cond.initialized "java/lang/Math").before args s = true) (hcode : (Cond.code Lib.Math.max.name Lib.Math.max.code 2 (some .int)).before args s = true) (hfr : 1 ≤ R.frames) (hlo : (st.map fun v => v.category).sum + 13 ≤ R.locals) (hc : cells ≤ R.cells) (hs : slots ≤ R.slots) {x y : Int} (h1 : ir x) (h2 : ir y) (hd : decode cc pc = .ok (.invokestatic index, 3)) (k : xV p l e R s m args below meth c H0 A cells slots Q D cl nL w lv (pc + 3) (.int (iI (max x y)) :: st)) : xV p l e R s m args below meth c H0 A cells slots Q D cl nL w lv pc (.int (iI y) :: .int (iI x) :: st) :=
  fun H locs ls hP hD hS hl => va_mmax hx hb (by rw [hml]; exact hl.1.symm) hown hlink hstat hini hcode hfr hlo hc hs hd (by rw [iI_mmax h1 h2]; exact k H locs ls hP hD hS hl)
theorem iI_mmin {x y : Int} (h1 : ir x) (h2 : ir y) : (if iI y < iI x then iI y else iI x) = iI (min x y) := by
  by_cases h : y < x
  · rw [if_pos ((iI_lt h2 h1).mpr h)]
    congr 1
    omega
  · rw [if_neg (fun z => h ((iI_lt h2 h1).mp z))]
    congr 1
    omega
theorem x_mmin (hx : p.tables.exec = Jvm.exec) (hb : c.code = cc) (hml : c.maxLocals = nL) {own : String} {index : Nat} (hown : s.vm.findClass own = some m.cls) (hlink : (Cond.methodLink own index Lib.Math.min.name).before args s = true) (hstat : (Cond.static Lib.Math.min.name).before args s = true) (hini : (Cond.initialized "java/lang/Math").before args s = true) (hcode : (Cond.code Lib.Math.min.name Lib.Math.min.code 2 (some .int)).before args s = true) (hfr : 1 ≤ R.frames) (hlo : (st.map fun v => v.category).sum + 13 ≤ R.locals) (hc : cells ≤ R.cells) (hs : slots ≤ R.slots) {x y : Int} (h1 : ir x) (h2 : ir y) (hd : decode cc pc = .ok (.invokestatic index, 3)) (k : xV p l e R s m args below meth c H0 A cells slots Q D cl nL w lv (pc + 3) (.int (iI (min x y)) :: st)) : xV p l e R s m args below meth c H0 A cells slots Q D cl nL w lv pc (.int (iI y) :: .int (iI x) :: st) :=
  fun H locs ls hP hD hS hl => va_mmin hx hb (by rw [hml]; exact hl.1.symm) hown hlink hstat hini hcode hfr hlo hc hs hd (by rw [iI_mmin h1 h2]; exact k H locs ls hP hD hS hl)
theorem x_get (hx : p.tables.exec = Jvm.exec) (hb : c.code = cc) {own ref C : String} {T : u_T} {N ci index : Nat} {Ts : List Cond} (hts : ∀ w ∈ Ts, w.before args s = true) (hin : ∀ w ∈ u_ws C T N, w ∈ Ts) (hown : s.vm.findClass own = some m.cls) (hK : va_K D cl tys s) (q0 : Nat) {a : Nat} {fs : List Value} (he : w[q0]? = some (a, .inr (ci, fs))) (hc : cl[ci]? = some (C, T, N)) (kf : Nat) (hk : kf < N) (hlink : (Cond.fieldLink own index ref (T kf).2.1 (T kf).2.2.1).before args s = true) (hsame : ∀ x, s.fieldFound? (T kf).1 (T kf).2.1 (T kf).2.2.1 = some x → s.fieldFound? ref (T kf).2.1 (T kf).2.2.1 = some x) {v : Value} (hv : fs[kf]? = some v) (hd : decode cc pc = .ok (.getfield index, 3)) (k : xV p l e R s m args below meth c H0 A cells slots Q D cl nL w lv (pc + 3) (v :: st)) : xV p l e R s m args below meth c H0 A cells slots Q D cl nL w lv pc (.ref a :: st) :=
  fun H locs ls hP hD hS hl => va_get hx hb hts hin hown hK hP q0 he hc kf hk hlink hsame hv hd (k H locs ls hP hD hS hl)
theorem x_put (hx : p.tables.exec = Jvm.exec) (hb : c.code = cc) {own ref C : String} {T : u_T} {N ci index : Nat} {Ts : List Cond} (hts : ∀ w ∈ Ts, w.before args s = true) (hin : ∀ w ∈ u_ws C T N, w ∈ Ts) (ty0 : Nat → FieldType) (hty : ∀ k, k < N → parseFieldDescriptor (T k).2.2.1 = some (ty0 k)) (hnm : ∀ a, a < N → ∀ b, b < N → a ≠ b → (T a).2.1 ≠ (T b).2.1) (hown : s.vm.findClass own = some m.cls) (hK : va_K D cl tys s) (q0 : Nat) {a : Nat} {fs : List Value} (he : w[q0]? = some (a, .inr (ci, fs))) (hc : cl[ci]? = some (C, T, N)) (kf : Nat) (hk : kf < N) (hlink : (Cond.fieldLink own index ref (T kf).2.1 (T kf).2.2.1).before args s = true) (hsame : ∀ x, s.fieldFound? (T kf).1 (T kf).2.1 (T kf).2.2.1 = some x → s.fieldFound? ref (T kf).2.1 (T kf).2.2.1 = some x) (hfin : (T kf).2.2.2 = false) {x : Int} (hdT : parseFieldDescriptor (T kf).2.2.1 = some .int) (hl' : kf < fs.length) (hd : decode cc pc = .ok (.putfield index, 3)) (hw : w.set q0 (a, .inr (ci, fs.set kf (.int (iI x)))) = w') (k : xV p l e R s m args below meth c H0 A cells slots Q D cl nL w' lv (pc + 3) st) : xV p l e R s m args below meth c H0 A cells slots Q D cl nL w lv pc (.int (iI x) :: .ref a :: st) :=
  fun H locs ls hP hD hS hl => va_put hx hb hts hin ty0 hty hnm hown hK hP hD hS q0 he hc kf hk hlink hsame hfin hdT rfl rfl hl' hd (fun H1 locs1 hP1 hD1 hS1 => k H1 locs1 ls (hw ▸ hP1) (hw ▸ hD1) hS1 hl)
theorem x_getN (hx : p.tables.exec = Jvm.exec) (hb : c.code = cc) {host : String} {own ref C : String} {T : u_T} {N ci index : Nat} {Ts : List Cond} (hts : ∀ w ∈ Ts, w.before args s = true) (hin : ∀ w ∈ u_ws C T N, w ∈ Ts) (hown : s.vm.findClass own = some m.cls) (hK : va_K D cl tys s) (q0 : Nat) {a : Nat} {fs : List Value} (he : w[q0]? = some (a, .inr (ci, fs))) (hc : cl[ci]? = some (C, T, N)) (kf : Nat) (hk : kf < N) (hlink : (Cond.fieldLinkNest own index ref (T kf).2.1 (T kf).2.2.1 host).before args s = true) (hsame : ∀ x, s.fieldFound? (T kf).1 (T kf).2.1 (T kf).2.2.1 = some x → s.fieldFound? ref (T kf).2.1 (T kf).2.2.1 = some x) {v : Value} (hv : fs[kf]? = some v) (hd : decode cc pc = .ok (.getfield index, 3)) (k : xV p l e R s m args below meth c H0 A cells slots Q D cl nL w lv (pc + 3) (v :: st)) : xV p l e R s m args below meth c H0 A cells slots Q D cl nL w lv pc (.ref a :: st) :=
  fun H locs ls hP hD hS hl => va_getN hx hb hts hin hown hK hP q0 he hc kf hk hlink hsame hv hd (k H locs ls hP hD hS hl)
theorem x_putN (hx : p.tables.exec = Jvm.exec) (hb : c.code = cc) {host : String} {own ref C : String} {T : u_T} {N ci index : Nat} {Ts : List Cond} (hts : ∀ w ∈ Ts, w.before args s = true) (hin : ∀ w ∈ u_ws C T N, w ∈ Ts) (ty0 : Nat → FieldType) (hty : ∀ k, k < N → parseFieldDescriptor (T k).2.2.1 = some (ty0 k)) (hnm : ∀ a, a < N → ∀ b, b < N → a ≠ b → (T a).2.1 ≠ (T b).2.1) (hown : s.vm.findClass own = some m.cls) (hK : va_K D cl tys s) (q0 : Nat) {a : Nat} {fs : List Value} (he : w[q0]? = some (a, .inr (ci, fs))) (hc : cl[ci]? = some (C, T, N)) (kf : Nat) (hk : kf < N) (hlink : (Cond.fieldLinkNest own index ref (T kf).2.1 (T kf).2.2.1 host).before args s = true) (hsame : ∀ x, s.fieldFound? (T kf).1 (T kf).2.1 (T kf).2.2.1 = some x → s.fieldFound? ref (T kf).2.1 (T kf).2.2.1 = some x) (hfin : (T kf).2.2.2 = false) {x : Int} (hdT : parseFieldDescriptor (T kf).2.2.1 = some .int) (hl' : kf < fs.length) (hd : decode cc pc = .ok (.putfield index, 3)) (hw : w.set q0 (a, .inr (ci, fs.set kf (.int (iI x)))) = w') (k : xV p l e R s m args below meth c H0 A cells slots Q D cl nL w' lv (pc + 3) st) : xV p l e R s m args below meth c H0 A cells slots Q D cl nL w lv pc (.int (iI x) :: .ref a :: st) :=
  fun H locs ls hP hD hS hl => va_putN hx hb hts hin ty0 hty hnm hown hK hP hD hS q0 he hc kf hk hlink hsame hfin hdT rfl rfl hl' hd (fun H1 locs1 hP1 hD1 hS1 => k H1 locs1 ls (hw ▸ hP1) (hw ▸ hD1) hS1 hl)
theorem x_iald (hx : p.tables.exec = Jvm.exec) (hb : c.code = cc) (hK : va_K D cl tys s) (q0 t0 : Nat) {a : Nat} {cA : ClassId} {n : Nat} {g : Nat → Int} (ha : w[q0]? = some (a, .inl (cA, n, .inl (fun j => iI (g j))))) (ht : tys[t0]? = some (cA, .int)) {i : Int} (h0 : 0 ≤ i) (h1 : i < n) (hn : n ≤ 2147483647) (hd : decode cc pc = .ok (.iaload, 1)) (k : xV p l e R s m args below meth c H0 A cells slots Q D cl nL w lv (pc + 1) (.int (iI (g i.toNat)) :: st)) : xV p l e R s m args below meth c H0 A cells slots Q D cl nL w lv pc (.int (iI i) :: .ref a :: st) :=
  fun H locs ls hP hD hS hl => va_iald hx hb hK hP q0 t0 ha ht (iI_in h0 h1 hn) hd (by rw [iI_clamp ⟨by omega, by omega⟩]; exact k H locs ls hP hD hS hl)
theorem x_iast (hx : p.tables.exec = Jvm.exec) (hb : c.code = cc) (hK : va_K D cl tys s) (q0 t0 : Nat) {a : Nat} {cA : ClassId} {n : Nat} {g : Nat → Int} (ha : w[q0]? = some (a, .inl (cA, n, .inl (fun j => iI (g j))))) (ht : tys[t0]? = some (cA, .int)) {i : Int} (h0 : 0 ≤ i) (h1 : i < n) (hn : n ≤ 2147483647) {x : Int} (hd : decode cc pc = .ok (.iastore, 1)) (hw : w.set q0 (a, .inl (cA, n, .inl (fun j => iI (va_up g i.toNat x j)))) = w') (k : xV p l e R s m args below meth c H0 A cells slots Q D cl nL w' lv (pc + 1) st) : xV p l e R s m args below meth c H0 A cells slots Q D cl nL w lv pc (.int (iI x) :: .int (iI i) :: .ref a :: st) :=
  fun H locs ls hP hD hS hl => va_iast hx hb hK hP hD hS q0 t0 ha ht (iI_in h0 h1 hn) hd (fun H1 locs1 hP1 hD1 hS1 => by rw [iI_upd g ⟨by omega, by omega⟩] at hP1 hD1; exact k H1 locs1 ls (hw ▸ hP1) (hw ▸ hD1) hS1 hl)
theorem x_aald (hx : p.tables.exec = Jvm.exec) (hb : c.code = cc) (hK : va_K D cl tys s) (q0 t0 : Nat) {a : Nat} {cA : ClassId} {C : String} {n : Nat} {g : Nat → Option Nat} (ha : w[q0]? = some (a, .inl (cA, n, .inr (.inr (.inr (.inr g)))))) (ht : tys[t0]? = some (cA, .object C)) {i : Int} {b : Nat} (h0 : 0 ≤ i) (h1 : i < n) (hn : n ≤ 2147483647) (hg : g i.toNat = some b) (hd : decode cc pc = .ok (.aaload, 1)) (k : xV p l e R s m args below meth c H0 A cells slots Q D cl nL w lv (pc + 1) (.ref b :: st)) : xV p l e R s m args below meth c H0 A cells slots Q D cl nL w lv pc (.int (iI i) :: .ref a :: st) :=
  fun H locs ls hP hD hS hl => va_aldq hx hb hK hP q0 t0 ha ht (iI_in h0 h1 hn) hd (by rw [iI_clamp ⟨by omega, by omega⟩, hg]; exact k H locs ls hP hD hS hl)
theorem x_alen (hx : p.tables.exec = Jvm.exec) (hb : c.code = cc) (hK : va_K D cl tys s) (q0 t0 : Nat) {a : Nat} {cA : ClassId} {n : Nat} {g : Nat → Int32} (ha : w[q0]? = some (a, .inl (cA, n, .inl g))) (ht : tys[t0]? = some (cA, .int)) (hd : decode cc pc = .ok (.arraylength, 1)) (k : xV p l e R s m args below meth c H0 A cells slots Q D cl nL w lv (pc + 1) (.int (iI (n : Int)) :: st)) : xV p l e R s m args below meth c H0 A cells slots Q D cl nL w lv pc (.ref a :: st) :=
  fun H locs ls hP hD hS hl => va_alen hx hb hK hP q0 t0 ha ht (v := iI (n : Int)) (Int32.ofInt_eq_ofNat).symm hd (k H locs ls hP hD hS hl)
theorem x_tsIn (hx : p.tables.exec = Jvm.exec) (hb : c.code = cc) (q : Int) {dflt lo hi : Int} {offs : Array Int} {len : Nat} {x off : Int} {tgt : Nat} (h1 : ir x) (hd : decode cc pc = .ok (.tableswitch dflt lo hi offs, len)) (hq : x = q) (h2 : lo ≤ q) (h3 : q ≤ hi) (ho : offs[(q - lo).toNat]? = some off) (ht : (pc : Int) + off = (tgt : Int)) (k : xV p l e R s m args below meth c H0 A cells slots Q D cl nL w lv tgt st) : xV p l e R s m args below meth c H0 A cells slots Q D cl nL w lv pc (.int (iI x) :: st) :=
  fun H locs ls hP hD hS hl => lv_tableIn hx hb hd (by rw [iI_toInt h1]; omega) (by rw [iI_toInt h1]; omega) (by rw [iI_toInt h1, hq]; exact ho) ht (k H locs ls hP hD hS hl)
theorem x_tsOut (hx : p.tables.exec = Jvm.exec) (hb : c.code = cc) {dflt lo hi : Int} {offs : Array Int} {len : Nat} {x : Int} {tgt : Nat} (h1 : ir x) (hd : decode cc pc = .ok (.tableswitch dflt lo hi offs, len)) (hq : x < lo ∨ hi < x) (ht : (pc : Int) + dflt = (tgt : Int)) (k : xV p l e R s m args below meth c H0 A cells slots Q D cl nL w lv tgt st) : xV p l e R s m args below meth c H0 A cells slots Q D cl nL w lv pc (.int (iI x) :: st) :=
  fun H locs ls hP hD hS hl => lv_tableOut hx hb hd (by rw [iI_toInt h1]; exact hq) ht (k H locs ls hP hD hS hl)
def xCI (l : Launch) (y : MethodName) (ws : List Cond) (rm : Room) (D : va_G) (cl : List vw_C) (tys : List (ClassId × FieldType)) (w : va_W) (av : List Value) (wf : fS → aS → va_W) (post : Int → fS → aS → Prop) : Prop :=
  ∀ sz : Nat, Met l y ws rm (va_Pc av (fun S => S.heap.size = sz ∧ va_P D cl w S.heap ∧ va_K D cl tys S ∧ va_D (fun _ => True) w ∧ xN S)) (va_Qi (fun r (u : fS × aS) => ∃ z, r = iI z ∧ post z u.1 u.2) (fun (u : fS × aS) t => va_P D cl (wf u.1 u.2) t.heap ∧ va_K D cl tys t ∧ va_D (va_A w sz) (wf u.1 u.2)) (va_A w sz)) 0 0 (va_A w sz)
def xCV (l : Launch) (y : MethodName) (ws : List Cond) (rm : Room) (D : va_G) (cl : List vw_C) (tys : List (ClassId × FieldType)) (w : va_W) (av : List Value) (wf : fS → aS → va_W) (post : fS → aS → Prop) : Prop :=
  ∀ sz : Nat, Met l y ws rm (va_Pc av (fun S => S.heap.size = sz ∧ va_P D cl w S.heap ∧ va_K D cl tys S ∧ va_D (fun _ => True) w ∧ xN S)) (va_Qv (fun (u : fS × aS) => post u.1 u.2) (fun (u : fS × aS) t => va_P D cl (wf u.1 u.2) t.heap ∧ va_K D cl tys t ∧ va_D (va_A w sz) (wf u.1 u.2)) (va_A w sz)) 0 0 (va_A w sz)
abbrev xQI (below : List Frame) (D : va_G) (cl : List vw_C) (tys : List (ClassId × FieldType)) (wf : fS → aS → va_W) (post : Int → fS → aS → Prop) (A : Nat → Prop) (args : Array Value) (s : State) : State → Prop := MQ below (va_Qi (fun r (u : fS × aS) => ∃ z, r = iI z ∧ post z u.1 u.2) (fun (u : fS × aS) t => va_P D cl (wf u.1 u.2) t.heap ∧ va_K D cl tys t ∧ va_D A (wf u.1 u.2)) A) args s 0 0 A
abbrev xQV (below : List Frame) (D : va_G) (cl : List vw_C) (tys : List (ClassId × FieldType)) (wf : fS → aS → va_W) (post : fS → aS → Prop) (A : Nat → Prop) (args : Array Value) (s : State) : State → Prop := MQ below (va_Qv (fun (u : fS × aS) => post u.1 u.2) (fun (u : fS × aS) t => va_P D cl (wf u.1 u.2) t.heap ∧ va_K D cl tys t ∧ va_D A (wf u.1 u.2)) A) args s 0 0 A
theorem x_iret {wf : fS → aS → va_W} {post : Int → fS → aS → Prop} {f : fS} {a : aS} {z : Int} (hx : p.tables.exec = Jvm.exec) (hb : c.code = cc) (hr : meth.sig.returnType = (some .int)) (hlk : meth.locks = false) (hK : va_K D cl tys s) (hd : decode cc pc = .ok (.ireturn, 1)) (hp : post z f a) : xV p l e R s m args below meth c s.heap A 0 0 (xQI below D cl tys wf post A args s) D cl nL (wf f a) lv pc [.int (iI z)] :=
  fun H locs ls hP hD hS hl => W.iret (v := iI z) hx hb hr (fun t ht hW => ⟨⟨iI z, (f, a), rfl, ⟨z, rfl, hp⟩, by rw [ht]; exact hP, va_K.moved hW.alike hK, hD⟩, hS.F ht⟩) hS.2.2 hd hlk
theorem x_nar {z : Int} (h : z = 0 ∨ z = 1) : narrow .boolean (.int (iI z)) = .int (iI z) := by
  rcases h with rfl | rfl <;> decide
theorem x_zret {wf : fS → aS → va_W} {post : Int → fS → aS → Prop} {f : fS} {a : aS} {z : Int} (hx : p.tables.exec = Jvm.exec) (hb : c.code = cc) (hr : meth.sig.returnType = (some .boolean)) (hlk : meth.locks = false) (hK : va_K D cl tys s) (hd : decode cc pc = .ok (.ireturn, 1)) (hz : z = 0 ∨ z = 1) (hp : post z f a) : xV p l e R s m args below meth c s.heap A 0 0 (xQI below D cl tys wf post A args s) D cl nL (wf f a) lv pc [.int (iI z)] :=
  fun H locs ls hP hD hS hl => W.zret (v := iI z) hx hb hr (x_nar hz) (fun t ht hW => ⟨⟨iI z, (f, a), rfl, ⟨z, rfl, hp⟩, by rw [ht]; exact hP, va_K.moved hW.alike hK, hD⟩, hS.F ht⟩) hS.2.2 hd hlk
theorem x_vret {wf : fS → aS → va_W} {post : fS → aS → Prop} {f : fS} {a : aS} (hx : p.tables.exec = Jvm.exec) (hb : c.code = cc) (hr : meth.sig.returnType = none) (hlk : meth.locks = false) (hK : va_K D cl tys s) (hd : decode cc pc = .ok (.return_, 1)) (hp : post f a) : xV p l e R s m args below meth c s.heap A 0 0 (xQV below D cl tys wf post A args s) D cl nL (wf f a) lv pc [] :=
  fun H locs ls hP hD hS hl => W.vret hx hb hr (fun t ht hW => ⟨⟨(f, a), rfl, hp, by rw [ht]; exact hP, va_K.moved hW.alike hK, hD⟩, hS.F ht⟩) hS.2.2 hd hlk
theorem x_fre {w : va_W} {A : Nat → Prop} {H0 H : Heap} {locs : List Loc} (hD : va_D A w) (hS : va_S A H0 H locs) (hA : ∀ q, H0.size ≤ q → A q) : ∀ q, va_A w H.size q → A q := by
  intro q h
  rcases h with ⟨k, e, h⟩ | h
  · exact hD.2 k _ h
  · exact hA q (Nat.le_trans hS.1 h)
theorem x_blind {av : List Value} {w : va_W} {sz : Nat} : FrameBlind (va_Pc av (fun S => S.heap.size = sz ∧ va_P D cl w S.heap ∧ va_K D cl tys S ∧ va_D (fun _ => True) w ∧ xN S)) := by
  intro a U g mk q
  obtain ⟨q0, q1, qP, qK, qD, qN⟩ := q
  exact ⟨q0, q1, qP, va_K.moved (u := U) (U := U.calling g mk a) (Vm.Alike.refl U.vm) qK, qD, xN_same (u := U) (U := U.calling g mk a) rfl qN⟩
theorem x_pre {av : List Value} {w : va_W} {H : Heap} {A : Nat → Prop} (hK : va_K D cl tys s) (hN : xN s) (hP : va_P D cl w H) (hD : va_D A w) : ∀ U : State, U.heap = H → s.WarmedH U.vm → (va_Pc av (fun S => S.heap.size = H.size ∧ va_P D cl w S.heap ∧ va_K D cl tys S ∧ va_D (fun _ => True) w ∧ xN S)) av.toArray U :=
  fun U hU hW => ⟨rfl, by rw [hU], by rw [hU]; exact hP, va_K.moved hW.alike hK, hD.weaken (fun _ _ _ _ => trivial), xN_warm hW hN⟩
theorem x_cwV {own C host : String} {index maxL n : Nat} {y : MethodName} {bytes : ByteArray} {ret : Option FieldType} {w0 : Cond} {rm : Room} (hts : ∀ w ∈ w0 :: xG, w.before args s = true) (hrc : rm.cells = 0) (hrs : rm.slots = 0) (kc : Cond.code y bytes maxL ret ∈ xG) (kn : Cond.initialized y.cls ∈ xG) (kl : Cond.methodLink own index y ∈ xG) (ki : Cond.instanceMethod y ∈ xG) (ks : Cond.selects C y y ∈ xG) (hd : y.cls ≠ "java/lang/invoke/MethodHandle" ∧ y.cls ≠ "java/lang/invoke/VarHandle" ∧ (parseMethodDescriptor y.desc).map (fun d => d.parameters.length) = some n) (hR : rm.frames + 1 ≤ R.frames ∧ 8 + (maxL + 11) + rm.locals ≤ R.locals) : CallW R s args own C index y bytes maxL ret (Cond.code y bytes maxL ret :: xG) rm 0 0 n :=
  ⟨callB_of n hts (xG_good kc) rfl hrc hrs (hts _ (List.mem_cons_of_mem _ kn)) (hts _ (List.mem_cons_of_mem _ kl)) hd hR, (hts _ (List.mem_cons_of_mem _ ki)), (hts _ (List.mem_cons_of_mem _ ks))⟩
theorem x_cwS {own C host : String} {index maxL n : Nat} {y : MethodName} {bytes : ByteArray} {ret : Option FieldType} {w0 : Cond} {rm : Room} (hts : ∀ w ∈ w0 :: xG, w.before args s = true) (hrc : rm.cells = 0) (hrs : rm.slots = 0) (kc : Cond.code y bytes maxL ret ∈ xG) (kn : Cond.initialized y.cls ∈ xG) (kl : Cond.methodLink own index y ∈ xG) (ks : Cond.static y ∈ xG) (hd : y.cls ≠ "java/lang/invoke/MethodHandle" ∧ y.cls ≠ "java/lang/invoke/VarHandle" ∧ (parseMethodDescriptor y.desc).map (fun d => d.parameters.length) = some n) (hR : rm.frames + 1 ≤ R.frames ∧ 8 + (maxL + 11) + rm.locals ≤ R.locals) : CallB R s args own index y bytes maxL ret (Cond.code y bytes maxL ret :: xG) rm 0 0 n ∧ (Cond.static y).before args s = true :=
  ⟨callB_of n hts (xG_good kc) rfl hrc hrs (hts _ (List.mem_cons_of_mem _ kn)) (hts _ (List.mem_cons_of_mem _ kl)) hd hR, (hts _ (List.mem_cons_of_mem _ ks))⟩
theorem x_cwVN {own C host : String} {index maxL n : Nat} {y : MethodName} {bytes : ByteArray} {ret : Option FieldType} {w0 : Cond} {rm : Room} (hts : ∀ w ∈ w0 :: xG, w.before args s = true) (hrc : rm.cells = 0) (hrs : rm.slots = 0) (kc : Cond.code y bytes maxL ret ∈ xG) (kn : Cond.initialized y.cls ∈ xG) (hN : xN s) (kl : Cond.methodLinkNest own index y host ∈ xNl) (ki : Cond.instanceMethod y ∈ xG) (ks : Cond.selects C y y ∈ xG) (hd : y.cls ≠ "java/lang/invoke/MethodHandle" ∧ y.cls ≠ "java/lang/invoke/VarHandle" ∧ (parseMethodDescriptor y.desc).map (fun d => d.parameters.length) = some n) (hR : rm.frames + 1 ≤ R.frames ∧ 8 + (maxL + 11) + rm.locals ≤ R.locals) : va_CN R s args own index y host bytes maxL ret (Cond.code y bytes maxL ret :: xG) rm 0 0 n ∧ (Cond.instanceMethod y).before args s = true ∧ (Cond.selects C y y).before args s = true :=
  ⟨va_cnB n hts (xG_good kc) rfl hrc hrs (hN.1 _ kl) (hts _ (List.mem_cons_of_mem _ kn)) hd hR, (hts _ (List.mem_cons_of_mem _ ki)), (hts _ (List.mem_cons_of_mem _ ks))⟩
theorem x_cwSN {own C host : String} {index maxL n : Nat} {y : MethodName} {bytes : ByteArray} {ret : Option FieldType} {w0 : Cond} {rm : Room} (hts : ∀ w ∈ w0 :: xG, w.before args s = true) (hrc : rm.cells = 0) (hrs : rm.slots = 0) (kc : Cond.code y bytes maxL ret ∈ xG) (kn : Cond.initialized y.cls ∈ xG) (hN : xN s) (kl : Cond.methodLinkNest own index y host ∈ xNl) (ks : Cond.static y ∈ xG) (hd : y.cls ≠ "java/lang/invoke/MethodHandle" ∧ y.cls ≠ "java/lang/invoke/VarHandle" ∧ (parseMethodDescriptor y.desc).map (fun d => d.parameters.length) = some n) (hR : rm.frames + 1 ≤ R.frames ∧ 8 + (maxL + 11) + rm.locals ≤ R.locals) : va_CN R s args own index y host bytes maxL ret (Cond.code y bytes maxL ret :: xG) rm 0 0 n ∧ (Cond.static y).before args s = true ∧ True :=
  ⟨va_cnB n hts (xG_good kc) rfl hrc hrs (hN.1 _ kl) (hts _ (List.mem_cons_of_mem _ kn)) hd hR, (hts _ (List.mem_cons_of_mem _ ks)), trivial⟩
theorem x_cVNi {wf : fS → aS → va_W} {y : MethodName} {bytes : ByteArray} {maxL n index : Nat} {ret : Option FieldType} {ws : List Cond} {rm : Room} {Ts : List Cond} {own C host : String} {b : Addr} {As : List Value} {T : u_T} {N ci : Nat} {fs : List Value} (S : CallFix p m c cc nL s args Ts own) {st0 : List Value} (hK : va_K D cl tys s) (hN : xN s) {post : Int → fS → aS → Prop} (hM : xCI l y ws rm D cl tys w (.ref b :: As) wf post) (cw : va_CN R s args own index y host bytes maxL ret ws rm 0 0 n ∧ (Cond.instanceMethod y).before args s = true ∧ (Cond.selects C y y).before args s = true) (q0 : Nat) (he : w[q0]? = some (b, .inr (ci, fs))) (hc : cl[ci]? = some (C, T, N)) (hA : ∀ q, H0.size ≤ q → A q) (hn : As.length = n) (hst : (st.map fun v => v.category).sum ≤ 8) (hf : cells ≤ R.cells ∧ slots ≤ R.slots) (hs : st0 = As.reverse ++ .ref b :: st) (hd : decode cc pc = .ok (.invokevirtual index, 3)) (k : ∀ (z : Int) (f : fS) (a : aS), post z f a → xV p l e R s m args below meth c H0 A cells slots Q D cl nL (wf f a) lv (pc + 3) (.int (iI z) :: st)) : xV p l e R s m args below meth c H0 A cells slots Q D cl nL w lv pc st0 := by
  intro H locs ls hP hD hS hl
  have hF := x_fre hD hS hA
  refine va_calli (va_runVN (C := C) (b := b) (As := As) (rest := st) S (hM H.size) cw ⟨x_blind, va_recv hK hP hc he, x_pre hK hN hP hD⟩ rfl hn hl.1 hs (lv_room hst) hd hf) hS (fun q _ h => hF q h) hF (fun r u t H1 locs1 ht hvm hz hB hsz hk hS1 => ?_)
  · obtain ⟨z, rfl, hz⟩ := hz
    obtain ⟨hP1, hK1, hD1⟩ := hB
    rw [ht] at hP1
    exact k z u.1 u.2 hz H1 locs1 ls hP1 (hD1.weaken (fun _ q _ h => hF q.1 h)) hS1 hl
theorem x_cVNv {wf : fS → aS → va_W} {y : MethodName} {bytes : ByteArray} {maxL n index : Nat} {ret : Option FieldType} {ws : List Cond} {rm : Room} {Ts : List Cond} {own C host : String} {b : Addr} {As : List Value} {T : u_T} {N ci : Nat} {fs : List Value} (S : CallFix p m c cc nL s args Ts own) {st0 : List Value} (hK : va_K D cl tys s) (hN : xN s) {post : fS → aS → Prop} (hM : xCV l y ws rm D cl tys w (.ref b :: As) wf post) (cw : va_CN R s args own index y host bytes maxL ret ws rm 0 0 n ∧ (Cond.instanceMethod y).before args s = true ∧ (Cond.selects C y y).before args s = true) (q0 : Nat) (he : w[q0]? = some (b, .inr (ci, fs))) (hc : cl[ci]? = some (C, T, N)) (hA : ∀ q, H0.size ≤ q → A q) (hn : As.length = n) (hst : (st.map fun v => v.category).sum ≤ 8) (hf : cells ≤ R.cells ∧ slots ≤ R.slots) (hs : st0 = As.reverse ++ .ref b :: st) (hd : decode cc pc = .ok (.invokevirtual index, 3)) (k : ∀ (f : fS) (a : aS), post f a → xV p l e R s m args below meth c H0 A cells slots Q D cl nL (wf f a) lv (pc + 3) st) : xV p l e R s m args below meth c H0 A cells slots Q D cl nL w lv pc st0 := by
  intro H locs ls hP hD hS hl
  have hF := x_fre hD hS hA
  refine va_callv (va_runVN (C := C) (b := b) (As := As) (rest := st) S (hM H.size) cw ⟨x_blind, va_recv hK hP hc he, x_pre hK hN hP hD⟩ rfl hn hl.1 hs (lv_room hst) hd hf) hS (fun q _ h => hF q h) hF (fun u t H1 locs1 ht hvm hz hB hsz hk hS1 => ?_)
  · obtain ⟨hP1, hK1, hD1⟩ := hB
    rw [ht] at hP1
    exact k u.1 u.2 hz H1 locs1 ls hP1 (hD1.weaken (fun _ q _ h => hF q.1 h)) hS1 hl
theorem x_cVi {wf : fS → aS → va_W} {y : MethodName} {bytes : ByteArray} {maxL n index : Nat} {ret : Option FieldType} {ws : List Cond} {rm : Room} {Ts : List Cond} {own C host : String} {b : Addr} {As : List Value} {T : u_T} {N ci : Nat} {fs : List Value} (S : CallFix p m c cc nL s args Ts own) {st0 : List Value} (hK : va_K D cl tys s) (hN : xN s) {post : Int → fS → aS → Prop} (hM : xCI l y ws rm D cl tys w (.ref b :: As) wf post) (cw : CallW R s args own C index y bytes maxL ret ws rm 0 0 n) (q0 : Nat) (he : w[q0]? = some (b, .inr (ci, fs))) (hc : cl[ci]? = some (C, T, N)) (hA : ∀ q, H0.size ≤ q → A q) (hn : As.length = n) (hst : (st.map fun v => v.category).sum ≤ 8) (hf : cells ≤ R.cells ∧ slots ≤ R.slots) (hs : st0 = As.reverse ++ .ref b :: st) (hd : decode cc pc = .ok (.invokevirtual index, 3)) (k : ∀ (z : Int) (f : fS) (a : aS), post z f a → xV p l e R s m args below meth c H0 A cells slots Q D cl nL (wf f a) lv (pc + 3) (.int (iI z) :: st)) : xV p l e R s m args below meth c H0 A cells slots Q D cl nL w lv pc st0 := by
  intro H locs ls hP hD hS hl
  have hF := x_fre hD hS hA
  refine va_calli (va_runV (C := C) (b := b) (As := As) (rest := st) S (hM H.size) cw ⟨x_blind, va_recv hK hP hc he, x_pre hK hN hP hD⟩ rfl hn hl.1 hs (lv_room hst) hd hf) hS (fun q _ h => hF q h) hF (fun r u t H1 locs1 ht hvm hz hB hsz hk hS1 => ?_)
  · obtain ⟨z, rfl, hz⟩ := hz
    obtain ⟨hP1, hK1, hD1⟩ := hB
    rw [ht] at hP1
    exact k z u.1 u.2 hz H1 locs1 ls hP1 (hD1.weaken (fun _ q _ h => hF q.1 h)) hS1 hl
theorem x_cVv {wf : fS → aS → va_W} {y : MethodName} {bytes : ByteArray} {maxL n index : Nat} {ret : Option FieldType} {ws : List Cond} {rm : Room} {Ts : List Cond} {own C host : String} {b : Addr} {As : List Value} {T : u_T} {N ci : Nat} {fs : List Value} (S : CallFix p m c cc nL s args Ts own) {st0 : List Value} (hK : va_K D cl tys s) (hN : xN s) {post : fS → aS → Prop} (hM : xCV l y ws rm D cl tys w (.ref b :: As) wf post) (cw : CallW R s args own C index y bytes maxL ret ws rm 0 0 n) (q0 : Nat) (he : w[q0]? = some (b, .inr (ci, fs))) (hc : cl[ci]? = some (C, T, N)) (hA : ∀ q, H0.size ≤ q → A q) (hn : As.length = n) (hst : (st.map fun v => v.category).sum ≤ 8) (hf : cells ≤ R.cells ∧ slots ≤ R.slots) (hs : st0 = As.reverse ++ .ref b :: st) (hd : decode cc pc = .ok (.invokevirtual index, 3)) (k : ∀ (f : fS) (a : aS), post f a → xV p l e R s m args below meth c H0 A cells slots Q D cl nL (wf f a) lv (pc + 3) st) : xV p l e R s m args below meth c H0 A cells slots Q D cl nL w lv pc st0 := by
  intro H locs ls hP hD hS hl
  have hF := x_fre hD hS hA
  refine va_callv (va_runV (C := C) (b := b) (As := As) (rest := st) S (hM H.size) cw ⟨x_blind, va_recv hK hP hc he, x_pre hK hN hP hD⟩ rfl hn hl.1 hs (lv_room hst) hd hf) hS (fun q _ h => hF q h) hF (fun u t H1 locs1 ht hvm hz hB hsz hk hS1 => ?_)
  · obtain ⟨hP1, hK1, hD1⟩ := hB
    rw [ht] at hP1
    exact k u.1 u.2 hz H1 locs1 ls hP1 (hD1.weaken (fun _ q _ h => hF q.1 h)) hS1 hl
theorem x_cSNi {wf : fS → aS → va_W} {y : MethodName} {bytes : ByteArray} {maxL n index : Nat} {ret : Option FieldType} {ws : List Cond} {rm : Room} {Ts : List Cond} {own C host : String} {b : Addr} {As : List Value} {T : u_T} {N ci : Nat} {fs : List Value} (S : CallFix p m c cc nL s args Ts own) {st0 : List Value} (hK : va_K D cl tys s) (hN : xN s) {post : Int → fS → aS → Prop} (hM : xCI l y ws rm D cl tys w As wf post) (cw : va_CN R s args own index y host bytes maxL ret ws rm 0 0 n ∧ (Cond.static y).before args s = true ∧ True)  (hA : ∀ q, H0.size ≤ q → A q) (hn : As.length = n) (hst : (st.map fun v => v.category).sum ≤ 8) (hf : cells ≤ R.cells ∧ slots ≤ R.slots) (hs : st0 = As.reverse ++ st) (hd : decode cc pc = .ok (.invokestatic index, 3)) (k : ∀ (z : Int) (f : fS) (a : aS), post z f a → xV p l e R s m args below meth c H0 A cells slots Q D cl nL (wf f a) lv (pc + 3) (.int (iI z) :: st)) : xV p l e R s m args below meth c H0 A cells slots Q D cl nL w lv pc st0 := by
  intro H locs ls hP hD hS hl
  have hF := x_fre hD hS hA
  refine va_calli (va_runSN (As := As) (rest := st) S (hM H.size) cw ⟨x_blind, x_pre hK hN hP hD⟩ rfl hn hl.1 hs (lv_room hst) hd hf) hS (fun q _ h => hF q h) hF (fun r u t H1 locs1 ht hvm hz hB hsz hk hS1 => ?_)
  · obtain ⟨z, rfl, hz⟩ := hz
    obtain ⟨hP1, hK1, hD1⟩ := hB
    rw [ht] at hP1
    exact k z u.1 u.2 hz H1 locs1 ls hP1 (hD1.weaken (fun _ q _ h => hF q.1 h)) hS1 hl
theorem x_cSNv {wf : fS → aS → va_W} {y : MethodName} {bytes : ByteArray} {maxL n index : Nat} {ret : Option FieldType} {ws : List Cond} {rm : Room} {Ts : List Cond} {own C host : String} {b : Addr} {As : List Value} {T : u_T} {N ci : Nat} {fs : List Value} (S : CallFix p m c cc nL s args Ts own) {st0 : List Value} (hK : va_K D cl tys s) (hN : xN s) {post : fS → aS → Prop} (hM : xCV l y ws rm D cl tys w As wf post) (cw : va_CN R s args own index y host bytes maxL ret ws rm 0 0 n ∧ (Cond.static y).before args s = true ∧ True)  (hA : ∀ q, H0.size ≤ q → A q) (hn : As.length = n) (hst : (st.map fun v => v.category).sum ≤ 8) (hf : cells ≤ R.cells ∧ slots ≤ R.slots) (hs : st0 = As.reverse ++ st) (hd : decode cc pc = .ok (.invokestatic index, 3)) (k : ∀ (f : fS) (a : aS), post f a → xV p l e R s m args below meth c H0 A cells slots Q D cl nL (wf f a) lv (pc + 3) st) : xV p l e R s m args below meth c H0 A cells slots Q D cl nL w lv pc st0 := by
  intro H locs ls hP hD hS hl
  have hF := x_fre hD hS hA
  refine va_callv (va_runSN (As := As) (rest := st) S (hM H.size) cw ⟨x_blind, x_pre hK hN hP hD⟩ rfl hn hl.1 hs (lv_room hst) hd hf) hS (fun q _ h => hF q h) hF (fun u t H1 locs1 ht hvm hz hB hsz hk hS1 => ?_)
  · obtain ⟨hP1, hK1, hD1⟩ := hB
    rw [ht] at hP1
    exact k u.1 u.2 hz H1 locs1 ls hP1 (hD1.weaken (fun _ q _ h => hF q.1 h)) hS1 hl
theorem x_cSi {wf : fS → aS → va_W} {y : MethodName} {bytes : ByteArray} {maxL n index : Nat} {ret : Option FieldType} {ws : List Cond} {rm : Room} {Ts : List Cond} {own C host : String} {b : Addr} {As : List Value} {T : u_T} {N ci : Nat} {fs : List Value} (S : CallFix p m c cc nL s args Ts own) {st0 : List Value} (hK : va_K D cl tys s) (hN : xN s) {post : Int → fS → aS → Prop} (hM : xCI l y ws rm D cl tys w As wf post) (cw : CallB R s args own index y bytes maxL ret ws rm 0 0 n ∧ (Cond.static y).before args s = true)  (hA : ∀ q, H0.size ≤ q → A q) (hn : As.length = n) (hst : (st.map fun v => v.category).sum ≤ 8) (hf : cells ≤ R.cells ∧ slots ≤ R.slots) (hs : st0 = As.reverse ++ st) (hd : decode cc pc = .ok (.invokestatic index, 3)) (k : ∀ (z : Int) (f : fS) (a : aS), post z f a → xV p l e R s m args below meth c H0 A cells slots Q D cl nL (wf f a) lv (pc + 3) (.int (iI z) :: st)) : xV p l e R s m args below meth c H0 A cells slots Q D cl nL w lv pc st0 := by
  intro H locs ls hP hD hS hl
  have hF := x_fre hD hS hA
  refine va_calli (va_runS (As := As) (rest := st) S (hM H.size) cw ⟨x_blind, x_pre hK hN hP hD⟩ rfl hn hl.1 hs (lv_room hst) hd hf) hS (fun q _ h => hF q h) hF (fun r u t H1 locs1 ht hvm hz hB hsz hk hS1 => ?_)
  · obtain ⟨z, rfl, hz⟩ := hz
    obtain ⟨hP1, hK1, hD1⟩ := hB
    rw [ht] at hP1
    exact k z u.1 u.2 hz H1 locs1 ls hP1 (hD1.weaken (fun _ q _ h => hF q.1 h)) hS1 hl
theorem x_cSv {wf : fS → aS → va_W} {y : MethodName} {bytes : ByteArray} {maxL n index : Nat} {ret : Option FieldType} {ws : List Cond} {rm : Room} {Ts : List Cond} {own C host : String} {b : Addr} {As : List Value} {T : u_T} {N ci : Nat} {fs : List Value} (S : CallFix p m c cc nL s args Ts own) {st0 : List Value} (hK : va_K D cl tys s) (hN : xN s) {post : fS → aS → Prop} (hM : xCV l y ws rm D cl tys w As wf post) (cw : CallB R s args own index y bytes maxL ret ws rm 0 0 n ∧ (Cond.static y).before args s = true)  (hA : ∀ q, H0.size ≤ q → A q) (hn : As.length = n) (hst : (st.map fun v => v.category).sum ≤ 8) (hf : cells ≤ R.cells ∧ slots ≤ R.slots) (hs : st0 = As.reverse ++ st) (hd : decode cc pc = .ok (.invokestatic index, 3)) (k : ∀ (f : fS) (a : aS), post f a → xV p l e R s m args below meth c H0 A cells slots Q D cl nL (wf f a) lv (pc + 3) st) : xV p l e R s m args below meth c H0 A cells slots Q D cl nL w lv pc st0 := by
  intro H locs ls hP hD hS hl
  have hF := x_fre hD hS hA
  refine va_callv (va_runS (As := As) (rest := st) S (hM H.size) cw ⟨x_blind, x_pre hK hN hP hD⟩ rfl hn hl.1 hs (lv_room hst) hd hf) hS (fun q _ h => hF q h) hF (fun u t H1 locs1 ht hvm hz hB hsz hk hS1 => ?_)
  · obtain ⟨hP1, hK1, hD1⟩ := hB
    rw [ht] at hP1
    exact k u.1 u.2 hz H1 locs1 ls hP1 (hD1.weaken (fun _ q _ h => hF q.1 h)) hS1 hl
/-- what a method's body stands on -/
def xOk (cc : ByteArray) (nL : Nat) (own : String) (ws : List Cond) (ret : Option FieldType) (p : Program) (s : State) (m : MethodId) (args : Array Value) (meth : Method) (c : Code) (A : Nat → Prop) (D : va_G) (cl : List vw_C) (tys : List (ClassId × FieldType)) : Prop :=
  p.tables.exec = Jvm.exec ∧ c.code = cc ∧ c.maxLocals = nL ∧ s.vm.findClass own = some m.cls ∧ (∀ w ∈ ws, w.before args s = true) ∧ meth.sig.returnType = ret ∧ meth.locks = false ∧ va_K D cl tys s ∧ xN s ∧ ∀ q, s.heap.size ≤ q → A q
theorem x_metI {wf : fS → aS → va_W} {post : Int → fS → aS → Prop} {ty : FieldType} {y : MethodName} {ws ws' : List Cond} {rm : Room} {av : List Value} (hy : plainName y.cls = true) (hw : ws = Cond.code y cc nL (some ty) :: ws') (hn : (lg_sl av).length ≤ nL)
    (body : ∀ (p : Program) (e : Env) (s : State) (m : MethodId) (below : List Frame) (meth : Method) (c : Code) (A : Nat → Prop), xOk cc nL y.cls ws (some ty) p s m av.toArray meth c A D cl tys → xV p l e rm s m av.toArray below meth c s.heap A 0 0 (xQI below D cl tys wf post A av.toArray s) D cl nL w (lv_args 0 av) 0 []) : xCI l y ws rm D cl tys w av wf post := by
  intro sz
  refine Met.ofW (cc := cc) (maxL := nL) (ret := (some ty)) hy hw ?_
  intro p e s m args below meth c s₁ B hml hv
  obtain ⟨rfl, hsz, hP, hK, hD0, hN⟩ := hv
  subst hsz
  have hD := hD0.self (sz := s.heap.size)
  have hl := lv_entry av (n := nL) hn
  rw [lg_entry_eq]
  exact body p e s m below meth c (va_A w s.heap.size) ⟨B.exec, B.bytes, hml, findClass_of_methodNamed B.named, atoms_spec (ws := ws) B.pre, B.returns, B.notSynchronized, hK, hN, fun q h => Or.inr h⟩ s.heap [] _ hP hD va_S.rf hl
theorem x_metV {wf : fS → aS → va_W} {post : fS → aS → Prop} {y : MethodName} {ws ws' : List Cond} {rm : Room} {av : List Value} (hy : plainName y.cls = true) (hw : ws = Cond.code y cc nL none :: ws') (hn : (lg_sl av).length ≤ nL)
    (body : ∀ (p : Program) (e : Env) (s : State) (m : MethodId) (below : List Frame) (meth : Method) (c : Code) (A : Nat → Prop), xOk cc nL y.cls ws none p s m av.toArray meth c A D cl tys → xV p l e rm s m av.toArray below meth c s.heap A 0 0 (xQV below D cl tys wf post A av.toArray s) D cl nL w (lv_args 0 av) 0 []) : xCV l y ws rm D cl tys w av wf post := by
  intro sz
  refine Met.ofW (cc := cc) (maxL := nL) (ret := none) hy hw ?_
  intro p e s m args below meth c s₁ B hml hv
  obtain ⟨rfl, hsz, hP, hK, hD0, hN⟩ := hv
  subst hsz
  have hD := hD0.self (sz := s.heap.size)
  have hl := lv_entry av (n := nL) hn
  rw [lg_entry_eq]
  exact body p e s m below meth c (va_A w s.heap.size) ⟨B.exec, B.bytes, hml, findClass_of_methodNamed B.named, atoms_spec (ws := ws) B.pre, B.returns, B.notSynchronized, hK, hN, fun q h => Or.inr h⟩ s.heap [] _ hP hD va_S.rf hl
end
end
section
def CW (ad : Nat → Nat → Nat) (cA : Nat → Nat → ClassId) (f : fS) (a : aS) : va_W :=
  [(ad 0 0, .inr (3, [.int (iI (f 0 0)), .ref (ad 1 0), .ref (ad 0 3), .ref (ad 2 0)])),
   (ad 0 3, .inl (cA 0 2, 4, .inr (.inr (.inr (.inr (fun i => if i < 4 then some (ad (3 + i) 0) else none)))))),
   (ad 1 0, .inr (2, [.ref (ad 1 1), .int (iI (f 1 1))])),
   (ad 1 1, .inl (cA 1 0, 24, .inl (fun j => iI (a 1 0 j)))),
   (ad 2 0, .inr (0, [.int (iI (f 2 0)), .int (iI (f 2 1)), .int (iI (f 2 2)), .ref (ad 2 4), .ref (ad 2 5), .ref (ad 2 6), .ref (ad 2 7), .ref (ad 2 8), .ref (ad 2 9), .ref (ad 2 10), .ref (ad 2 11), .ref (ad 2 12)])),
   (ad 2 4, .inl (cA 2 3, 195, .inl (fun j => iI (a 2 3 j)))),
   (ad 2 5, .inl (cA 2 4, 195, .inl (fun j => iI (a 2 4 j)))),
   (ad 2 6, .inl (cA 2 5, 195, .inl (fun j => iI (a 2 5 j)))),
   (ad 2 7, .inl (cA 2 6, 64, .inl (fun j => iI (a 2 6 j)))),
   (ad 2 8, .inl (cA 2 7, 384, .inl (fun j => iI (a 2 7 j)))),
   (ad 2 9, .inl (cA 2 8, 64, .inl (fun j => iI (a 2 8 j)))),
   (ad 2 10, .inl (cA 2 9, 64, .inl (fun j => iI (a 2 9 j)))),
   (ad 2 11, .inl (cA 2 10, 64, .inl (fun j => iI (a 2 10 j)))),
   (ad 2 12, .inl (cA 2 11, 64, .inl (fun j => iI (a 2 11 j)))),
   (ad 3 0, .inr (1, [.int (iI (f 3 0)), .int (iI (f 3 1)), .int (iI (f 3 2)), .ref (ad 3 4), .ref (ad 3 5), .ref (ad 3 6), .ref (ad 3 7), .ref (ad 3 8), .ref (ad 3 9)])),
   (ad 3 4, .inl (cA 3 3, 384, .inl (fun j => iI (a 3 3 j)))),
   (ad 3 5, .inl (cA 3 4, 384, .inl (fun j => iI (a 3 4 j)))),
   (ad 3 6, .inl (cA 3 5, 64, .inl (fun j => iI (a 3 5 j)))),
   (ad 3 7, .inl (cA 3 6, 64, .inl (fun j => iI (a 3 6 j)))),
   (ad 3 8, .inl (cA 3 7, 64, .inl (fun j => iI (a 3 7 j)))),
   (ad 3 9, .inl (cA 3 8, 64, .inl (fun j => iI (a 3 8 j)))),
   (ad 4 0, .inr (1, [.int (iI (f 4 0)), .int (iI (f 4 1)), .int (iI (f 4 2)), .ref (ad 4 4), .ref (ad 4 5), .ref (ad 4 6), .ref (ad 4 7), .ref (ad 4 8), .ref (ad 4 9)])),
   (ad 4 4, .inl (cA 4 3, 384, .inl (fun j => iI (a 4 3 j)))),
   (ad 4 5, .inl (cA 4 4, 384, .inl (fun j => iI (a 4 4 j)))),
   (ad 4 6, .inl (cA 4 5, 64, .inl (fun j => iI (a 4 5 j)))),
   (ad 4 7, .inl (cA 4 6, 64, .inl (fun j => iI (a 4 6 j)))),
   (ad 4 8, .inl (cA 4 7, 64, .inl (fun j => iI (a 4 7 j)))),
   (ad 4 9, .inl (cA 4 8, 64, .inl (fun j => iI (a 4 8 j)))),
   (ad 5 0, .inr (1, [.int (iI (f 5 0)), .int (iI (f 5 1)), .int (iI (f 5 2)), .ref (ad 5 4), .ref (ad 5 5), .ref (ad 5 6), .ref (ad 5 7), .ref (ad 5 8), .ref (ad 5 9)])),
   (ad 5 4, .inl (cA 5 3, 384, .inl (fun j => iI (a 5 3 j)))),
   (ad 5 5, .inl (cA 5 4, 384, .inl (fun j => iI (a 5 4 j)))),
   (ad 5 6, .inl (cA 5 5, 64, .inl (fun j => iI (a 5 5 j)))),
   (ad 5 7, .inl (cA 5 6, 64, .inl (fun j => iI (a 5 6 j)))),
   (ad 5 8, .inl (cA 5 7, 64, .inl (fun j => iI (a 5 7 j)))),
   (ad 5 9, .inl (cA 5 8, 64, .inl (fun j => iI (a 5 8 j)))),
   (ad 6 0, .inr (1, [.int (iI (f 6 0)), .int (iI (f 6 1)), .int (iI (f 6 2)), .ref (ad 6 4), .ref (ad 6 5), .ref (ad 6 6), .ref (ad 6 7), .ref (ad 6 8), .ref (ad 6 9)])),
   (ad 6 4, .inl (cA 6 3, 384, .inl (fun j => iI (a 6 3 j)))),
   (ad 6 5, .inl (cA 6 4, 384, .inl (fun j => iI (a 6 4 j)))),
   (ad 6 6, .inl (cA 6 5, 64, .inl (fun j => iI (a 6 5 j)))),
   (ad 6 7, .inl (cA 6 6, 64, .inl (fun j => iI (a 6 6 j)))),
   (ad 6 8, .inl (cA 6 7, 64, .inl (fun j => iI (a 6 7 j)))),
   (ad 6 9, .inl (cA 6 8, 64, .inl (fun j => iI (a 6 8 j))))]
def taC (cA : Nat → Nat → ClassId) : List (ClassId × FieldType) :=
  [(cA 0 2, .object RG), (cA 1 0, .int), (cA 2 3, .int), (cA 2 4, .int), (cA 2 5, .int), (cA 2 6, .int), (cA 2 7, .int), (cA 2 8, .int), (cA 2 9, .int), (cA 2 10, .int), (cA 2 11, .int), (cA 3 3, .int), (cA 3 4, .int), (cA 3 5, .int), (cA 3 6, .int), (cA 3 7, .int), (cA 3 8, .int), (cA 4 3, .int), (cA 4 4, .int), (cA 4 5, .int), (cA 4 6, .int), (cA 4 7, .int), (cA 4 8, .int), (cA 5 3, .int), (cA 5 4, .int), (cA 5 5, .int), (cA 5 6, .int), (cA 5 7, .int), (cA 5 8, .int), (cA 6 3, .int), (cA 6 4, .int), (cA 6 5, .int), (cA 6 6, .int), (cA 6 7, .int), (cA 6 8, .int)]
theorem woX (ad : Nat → Nat → Nat) (cA : Nat → Nat → ClassId) (f : fS) (a : aS) : (CW ad cA f a)[0]? = some (ad 0 0, .inr (3, [.int (iI (f 0 0)), .ref (ad 1 0), .ref (ad 0 3), .ref (ad 2 0)])) := rfl
theorem wf0X (ad : Nat → Nat → Nat) (cA : Nat → Nat → ClassId) (f : fS) (a : aS) (v : Int) : (CW ad cA f a).set 0 (ad 0 0, .inr (3, ([.int (iI (f 0 0)), .ref (ad 1 0), .ref (ad 0 3), .ref (ad 2 0)] : List Value).set 0 (.int (iI v)))) = CW ad cA (setF f 0 0 v) a := rfl
theorem wa2X (ad : Nat → Nat → Nat) (cA : Nat → Nat → ClassId) (f : fS) (a : aS) : (CW ad cA f a)[1]? = some (ad 0 3, .inl (cA 0 2, 4, .inr (.inr (.inr (.inr (fun i => if i < 4 then some (ad (3 + i) 0) else none)))))) := rfl
theorem wt2X (cA : Nat → Nat → ClassId) : (taC cA)[0]? = some (cA 0 2, .object RG) := rfl
theorem woW (ad : Nat → Nat → Nat) (cA : Nat → Nat → ClassId) (f : fS) (a : aS) : (CW ad cA f a)[2]? = some (ad 1 0, .inr (2, [.ref (ad 1 1), .int (iI (f 1 1))])) := rfl
theorem wa0W (ad : Nat → Nat → Nat) (cA : Nat → Nat → ClassId) (f : fS) (a : aS) : (CW ad cA f a)[3]? = some (ad 1 1, .inl (cA 1 0, 24, .inl (fun j => iI (a 1 0 j)))) := rfl
theorem ws0W (ad : Nat → Nat → Nat) (cA : Nat → Nat → ClassId) (f : fS) (a : aS) (g : Nat → Int) : (CW ad cA f a).set 3 (ad 1 1, .inl (cA 1 0, 24, .inl (fun j => iI (g j)))) = CW ad cA f (setA a 1 0 g) := rfl
theorem wt0W (cA : Nat → Nat → ClassId) : (taC cA)[1]? = some (cA 1 0, .int) := rfl
theorem wf1W (ad : Nat → Nat → Nat) (cA : Nat → Nat → ClassId) (f : fS) (a : aS) (v : Int) : (CW ad cA f a).set 2 (ad 1 0, .inr (2, ([.ref (ad 1 1), .int (iI (f 1 1))] : List Value).set 1 (.int (iI v)))) = CW ad cA (setF f 1 1 v) a := rfl
theorem woD (ad : Nat → Nat → Nat) (cA : Nat → Nat → ClassId) (f : fS) (a : aS) : (CW ad cA f a)[4]? = some (ad 2 0, .inr (0, [.int (iI (f 2 0)), .int (iI (f 2 1)), .int (iI (f 2 2)), .ref (ad 2 4), .ref (ad 2 5), .ref (ad 2 6), .ref (ad 2 7), .ref (ad 2 8), .ref (ad 2 9), .ref (ad 2 10), .ref (ad 2 11), .ref (ad 2 12)])) := rfl
theorem wf0D (ad : Nat → Nat → Nat) (cA : Nat → Nat → ClassId) (f : fS) (a : aS) (v : Int) : (CW ad cA f a).set 4 (ad 2 0, .inr (0, ([.int (iI (f 2 0)), .int (iI (f 2 1)), .int (iI (f 2 2)), .ref (ad 2 4), .ref (ad 2 5), .ref (ad 2 6), .ref (ad 2 7), .ref (ad 2 8), .ref (ad 2 9), .ref (ad 2 10), .ref (ad 2 11), .ref (ad 2 12)] : List Value).set 0 (.int (iI v)))) = CW ad cA (setF f 2 0 v) a := rfl
theorem wf1D (ad : Nat → Nat → Nat) (cA : Nat → Nat → ClassId) (f : fS) (a : aS) (v : Int) : (CW ad cA f a).set 4 (ad 2 0, .inr (0, ([.int (iI (f 2 0)), .int (iI (f 2 1)), .int (iI (f 2 2)), .ref (ad 2 4), .ref (ad 2 5), .ref (ad 2 6), .ref (ad 2 7), .ref (ad 2 8), .ref (ad 2 9), .ref (ad 2 10), .ref (ad 2 11), .ref (ad 2 12)] : List Value).set 1 (.int (iI v)))) = CW ad cA (setF f 2 1 v) a := rfl
theorem wf2D (ad : Nat → Nat → Nat) (cA : Nat → Nat → ClassId) (f : fS) (a : aS) (v : Int) : (CW ad cA f a).set 4 (ad 2 0, .inr (0, ([.int (iI (f 2 0)), .int (iI (f 2 1)), .int (iI (f 2 2)), .ref (ad 2 4), .ref (ad 2 5), .ref (ad 2 6), .ref (ad 2 7), .ref (ad 2 8), .ref (ad 2 9), .ref (ad 2 10), .ref (ad 2 11), .ref (ad 2 12)] : List Value).set 2 (.int (iI v)))) = CW ad cA (setF f 2 2 v) a := rfl
theorem wa3D (ad : Nat → Nat → Nat) (cA : Nat → Nat → ClassId) (f : fS) (a : aS) : (CW ad cA f a)[5]? = some (ad 2 4, .inl (cA 2 3, 195, .inl (fun j => iI (a 2 3 j)))) := rfl
theorem ws3D (ad : Nat → Nat → Nat) (cA : Nat → Nat → ClassId) (f : fS) (a : aS) (g : Nat → Int) : (CW ad cA f a).set 5 (ad 2 4, .inl (cA 2 3, 195, .inl (fun j => iI (g j)))) = CW ad cA f (setA a 2 3 g) := rfl
theorem wt3D (cA : Nat → Nat → ClassId) : (taC cA)[2]? = some (cA 2 3, .int) := rfl
theorem wa4D (ad : Nat → Nat → Nat) (cA : Nat → Nat → ClassId) (f : fS) (a : aS) : (CW ad cA f a)[6]? = some (ad 2 5, .inl (cA 2 4, 195, .inl (fun j => iI (a 2 4 j)))) := rfl
theorem ws4D (ad : Nat → Nat → Nat) (cA : Nat → Nat → ClassId) (f : fS) (a : aS) (g : Nat → Int) : (CW ad cA f a).set 6 (ad 2 5, .inl (cA 2 4, 195, .inl (fun j => iI (g j)))) = CW ad cA f (setA a 2 4 g) := rfl
theorem wt4D (cA : Nat → Nat → ClassId) : (taC cA)[3]? = some (cA 2 4, .int) := rfl
theorem wa5D (ad : Nat → Nat → Nat) (cA : Nat → Nat → ClassId) (f : fS) (a : aS) : (CW ad cA f a)[7]? = some (ad 2 6, .inl (cA 2 5, 195, .inl (fun j => iI (a 2 5 j)))) := rfl
theorem ws5D (ad : Nat → Nat → Nat) (cA : Nat → Nat → ClassId) (f : fS) (a : aS) (g : Nat → Int) : (CW ad cA f a).set 7 (ad 2 6, .inl (cA 2 5, 195, .inl (fun j => iI (g j)))) = CW ad cA f (setA a 2 5 g) := rfl
theorem wt5D (cA : Nat → Nat → ClassId) : (taC cA)[4]? = some (cA 2 5, .int) := rfl
theorem wa6D (ad : Nat → Nat → Nat) (cA : Nat → Nat → ClassId) (f : fS) (a : aS) : (CW ad cA f a)[8]? = some (ad 2 7, .inl (cA 2 6, 64, .inl (fun j => iI (a 2 6 j)))) := rfl
theorem ws6D (ad : Nat → Nat → Nat) (cA : Nat → Nat → ClassId) (f : fS) (a : aS) (g : Nat → Int) : (CW ad cA f a).set 8 (ad 2 7, .inl (cA 2 6, 64, .inl (fun j => iI (g j)))) = CW ad cA f (setA a 2 6 g) := rfl
theorem wt6D (cA : Nat → Nat → ClassId) : (taC cA)[5]? = some (cA 2 6, .int) := rfl
theorem wa7D (ad : Nat → Nat → Nat) (cA : Nat → Nat → ClassId) (f : fS) (a : aS) : (CW ad cA f a)[9]? = some (ad 2 8, .inl (cA 2 7, 384, .inl (fun j => iI (a 2 7 j)))) := rfl
theorem ws7D (ad : Nat → Nat → Nat) (cA : Nat → Nat → ClassId) (f : fS) (a : aS) (g : Nat → Int) : (CW ad cA f a).set 9 (ad 2 8, .inl (cA 2 7, 384, .inl (fun j => iI (g j)))) = CW ad cA f (setA a 2 7 g) := rfl
theorem wt7D (cA : Nat → Nat → ClassId) : (taC cA)[6]? = some (cA 2 7, .int) := rfl
theorem wa8D (ad : Nat → Nat → Nat) (cA : Nat → Nat → ClassId) (f : fS) (a : aS) : (CW ad cA f a)[10]? = some (ad 2 9, .inl (cA 2 8, 64, .inl (fun j => iI (a 2 8 j)))) := rfl
theorem ws8D (ad : Nat → Nat → Nat) (cA : Nat → Nat → ClassId) (f : fS) (a : aS) (g : Nat → Int) : (CW ad cA f a).set 10 (ad 2 9, .inl (cA 2 8, 64, .inl (fun j => iI (g j)))) = CW ad cA f (setA a 2 8 g) := rfl
theorem wt8D (cA : Nat → Nat → ClassId) : (taC cA)[7]? = some (cA 2 8, .int) := rfl
theorem wa9D (ad : Nat → Nat → Nat) (cA : Nat → Nat → ClassId) (f : fS) (a : aS) : (CW ad cA f a)[11]? = some (ad 2 10, .inl (cA 2 9, 64, .inl (fun j => iI (a 2 9 j)))) := rfl
theorem ws9D (ad : Nat → Nat → Nat) (cA : Nat → Nat → ClassId) (f : fS) (a : aS) (g : Nat → Int) : (CW ad cA f a).set 11 (ad 2 10, .inl (cA 2 9, 64, .inl (fun j => iI (g j)))) = CW ad cA f (setA a 2 9 g) := rfl
theorem wt9D (cA : Nat → Nat → ClassId) : (taC cA)[8]? = some (cA 2 9, .int) := rfl
theorem wa10D (ad : Nat → Nat → Nat) (cA : Nat → Nat → ClassId) (f : fS) (a : aS) : (CW ad cA f a)[12]? = some (ad 2 11, .inl (cA 2 10, 64, .inl (fun j => iI (a 2 10 j)))) := rfl
theorem ws10D (ad : Nat → Nat → Nat) (cA : Nat → Nat → ClassId) (f : fS) (a : aS) (g : Nat → Int) : (CW ad cA f a).set 12 (ad 2 11, .inl (cA 2 10, 64, .inl (fun j => iI (g j)))) = CW ad cA f (setA a 2 10 g) := rfl
theorem wt10D (cA : Nat → Nat → ClassId) : (taC cA)[9]? = some (cA 2 10, .int) := rfl
theorem wa11D (ad : Nat → Nat → Nat) (cA : Nat → Nat → ClassId) (f : fS) (a : aS) : (CW ad cA f a)[13]? = some (ad 2 12, .inl (cA 2 11, 64, .inl (fun j => iI (a 2 11 j)))) := rfl
theorem ws11D (ad : Nat → Nat → Nat) (cA : Nat → Nat → ClassId) (f : fS) (a : aS) (g : Nat → Int) : (CW ad cA f a).set 13 (ad 2 12, .inl (cA 2 11, 64, .inl (fun j => iI (g j)))) = CW ad cA f (setA a 2 11 g) := rfl
theorem wt11D (cA : Nat → Nat → ClassId) : (taC cA)[10]? = some (cA 2 11, .int) := rfl
theorem woG (ad : Nat → Nat → Nat) (cA : Nat → Nat → ClassId) (f : fS) (a : aS) (o : Nat) (h : 3 ≤ o ∧ o < 7) : (CW ad cA f a)[(14 + 7 * (o - 3))]? = some (ad o 0, .inr (1, [.int (iI (f o 0)), .int (iI (f o 1)), .int (iI (f o 2)), .ref (ad o 4), .ref (ad o 5), .ref (ad o 6), .ref (ad o 7), .ref (ad o 8), .ref (ad o 9)])) := by
  obtain rfl | rfl | rfl | rfl : o = 3 ∨ o = 4 ∨ o = 5 ∨ o = 6 := by omega
  all_goals rfl
theorem wf0G (ad : Nat → Nat → Nat) (cA : Nat → Nat → ClassId) (f : fS) (a : aS) (v : Int) (o : Nat) (h : 3 ≤ o ∧ o < 7) : (CW ad cA f a).set (14 + 7 * (o - 3)) (ad o 0, .inr (1, ([.int (iI (f o 0)), .int (iI (f o 1)), .int (iI (f o 2)), .ref (ad o 4), .ref (ad o 5), .ref (ad o 6), .ref (ad o 7), .ref (ad o 8), .ref (ad o 9)] : List Value).set 0 (.int (iI v)))) = CW ad cA (setF f o 0 v) a := by
  obtain rfl | rfl | rfl | rfl : o = 3 ∨ o = 4 ∨ o = 5 ∨ o = 6 := by omega
  all_goals rfl
theorem wf1G (ad : Nat → Nat → Nat) (cA : Nat → Nat → ClassId) (f : fS) (a : aS) (v : Int) (o : Nat) (h : 3 ≤ o ∧ o < 7) : (CW ad cA f a).set (14 + 7 * (o - 3)) (ad o 0, .inr (1, ([.int (iI (f o 0)), .int (iI (f o 1)), .int (iI (f o 2)), .ref (ad o 4), .ref (ad o 5), .ref (ad o 6), .ref (ad o 7), .ref (ad o 8), .ref (ad o 9)] : List Value).set 1 (.int (iI v)))) = CW ad cA (setF f o 1 v) a := by
  obtain rfl | rfl | rfl | rfl : o = 3 ∨ o = 4 ∨ o = 5 ∨ o = 6 := by omega
  all_goals rfl
theorem wf2G (ad : Nat → Nat → Nat) (cA : Nat → Nat → ClassId) (f : fS) (a : aS) (v : Int) (o : Nat) (h : 3 ≤ o ∧ o < 7) : (CW ad cA f a).set (14 + 7 * (o - 3)) (ad o 0, .inr (1, ([.int (iI (f o 0)), .int (iI (f o 1)), .int (iI (f o 2)), .ref (ad o 4), .ref (ad o 5), .ref (ad o 6), .ref (ad o 7), .ref (ad o 8), .ref (ad o 9)] : List Value).set 2 (.int (iI v)))) = CW ad cA (setF f o 2 v) a := by
  obtain rfl | rfl | rfl | rfl : o = 3 ∨ o = 4 ∨ o = 5 ∨ o = 6 := by omega
  all_goals rfl
theorem wa3G (ad : Nat → Nat → Nat) (cA : Nat → Nat → ClassId) (f : fS) (a : aS) (o : Nat) (h : 3 ≤ o ∧ o < 7) : (CW ad cA f a)[(15 + 7 * (o - 3))]? = some (ad o 4, .inl (cA o 3, 384, .inl (fun j => iI (a o 3 j)))) := by
  obtain rfl | rfl | rfl | rfl : o = 3 ∨ o = 4 ∨ o = 5 ∨ o = 6 := by omega
  all_goals rfl
theorem ws3G (ad : Nat → Nat → Nat) (cA : Nat → Nat → ClassId) (f : fS) (a : aS) (g : Nat → Int) (o : Nat) (h : 3 ≤ o ∧ o < 7) : (CW ad cA f a).set (15 + 7 * (o - 3)) (ad o 4, .inl (cA o 3, 384, .inl (fun j => iI (g j)))) = CW ad cA f (setA a o 3 g) := by
  obtain rfl | rfl | rfl | rfl : o = 3 ∨ o = 4 ∨ o = 5 ∨ o = 6 := by omega
  all_goals rfl
theorem wt3G (cA : Nat → Nat → ClassId) (o : Nat) (h : 3 ≤ o ∧ o < 7) : (taC cA)[(11 + 6 * (o - 3))]? = some (cA o 3, .int) := by
  obtain rfl | rfl | rfl | rfl : o = 3 ∨ o = 4 ∨ o = 5 ∨ o = 6 := by omega
  all_goals rfl
theorem wa4G (ad : Nat → Nat → Nat) (cA : Nat → Nat → ClassId) (f : fS) (a : aS) (o : Nat) (h : 3 ≤ o ∧ o < 7) : (CW ad cA f a)[(16 + 7 * (o - 3))]? = some (ad o 5, .inl (cA o 4, 384, .inl (fun j => iI (a o 4 j)))) := by
  obtain rfl | rfl | rfl | rfl : o = 3 ∨ o = 4 ∨ o = 5 ∨ o = 6 := by omega
  all_goals rfl
theorem ws4G (ad : Nat → Nat → Nat) (cA : Nat → Nat → ClassId) (f : fS) (a : aS) (g : Nat → Int) (o : Nat) (h : 3 ≤ o ∧ o < 7) : (CW ad cA f a).set (16 + 7 * (o - 3)) (ad o 5, .inl (cA o 4, 384, .inl (fun j => iI (g j)))) = CW ad cA f (setA a o 4 g) := by
  obtain rfl | rfl | rfl | rfl : o = 3 ∨ o = 4 ∨ o = 5 ∨ o = 6 := by omega
  all_goals rfl
theorem wt4G (cA : Nat → Nat → ClassId) (o : Nat) (h : 3 ≤ o ∧ o < 7) : (taC cA)[(12 + 6 * (o - 3))]? = some (cA o 4, .int) := by
  obtain rfl | rfl | rfl | rfl : o = 3 ∨ o = 4 ∨ o = 5 ∨ o = 6 := by omega
  all_goals rfl
theorem wa5G (ad : Nat → Nat → Nat) (cA : Nat → Nat → ClassId) (f : fS) (a : aS) (o : Nat) (h : 3 ≤ o ∧ o < 7) : (CW ad cA f a)[(17 + 7 * (o - 3))]? = some (ad o 6, .inl (cA o 5, 64, .inl (fun j => iI (a o 5 j)))) := by
  obtain rfl | rfl | rfl | rfl : o = 3 ∨ o = 4 ∨ o = 5 ∨ o = 6 := by omega
  all_goals rfl
theorem ws5G (ad : Nat → Nat → Nat) (cA : Nat → Nat → ClassId) (f : fS) (a : aS) (g : Nat → Int) (o : Nat) (h : 3 ≤ o ∧ o < 7) : (CW ad cA f a).set (17 + 7 * (o - 3)) (ad o 6, .inl (cA o 5, 64, .inl (fun j => iI (g j)))) = CW ad cA f (setA a o 5 g) := by
  obtain rfl | rfl | rfl | rfl : o = 3 ∨ o = 4 ∨ o = 5 ∨ o = 6 := by omega
  all_goals rfl
theorem wt5G (cA : Nat → Nat → ClassId) (o : Nat) (h : 3 ≤ o ∧ o < 7) : (taC cA)[(13 + 6 * (o - 3))]? = some (cA o 5, .int) := by
  obtain rfl | rfl | rfl | rfl : o = 3 ∨ o = 4 ∨ o = 5 ∨ o = 6 := by omega
  all_goals rfl
theorem wa6G (ad : Nat → Nat → Nat) (cA : Nat → Nat → ClassId) (f : fS) (a : aS) (o : Nat) (h : 3 ≤ o ∧ o < 7) : (CW ad cA f a)[(18 + 7 * (o - 3))]? = some (ad o 7, .inl (cA o 6, 64, .inl (fun j => iI (a o 6 j)))) := by
  obtain rfl | rfl | rfl | rfl : o = 3 ∨ o = 4 ∨ o = 5 ∨ o = 6 := by omega
  all_goals rfl
theorem ws6G (ad : Nat → Nat → Nat) (cA : Nat → Nat → ClassId) (f : fS) (a : aS) (g : Nat → Int) (o : Nat) (h : 3 ≤ o ∧ o < 7) : (CW ad cA f a).set (18 + 7 * (o - 3)) (ad o 7, .inl (cA o 6, 64, .inl (fun j => iI (g j)))) = CW ad cA f (setA a o 6 g) := by
  obtain rfl | rfl | rfl | rfl : o = 3 ∨ o = 4 ∨ o = 5 ∨ o = 6 := by omega
  all_goals rfl
theorem wt6G (cA : Nat → Nat → ClassId) (o : Nat) (h : 3 ≤ o ∧ o < 7) : (taC cA)[(14 + 6 * (o - 3))]? = some (cA o 6, .int) := by
  obtain rfl | rfl | rfl | rfl : o = 3 ∨ o = 4 ∨ o = 5 ∨ o = 6 := by omega
  all_goals rfl
theorem wa7G (ad : Nat → Nat → Nat) (cA : Nat → Nat → ClassId) (f : fS) (a : aS) (o : Nat) (h : 3 ≤ o ∧ o < 7) : (CW ad cA f a)[(19 + 7 * (o - 3))]? = some (ad o 8, .inl (cA o 7, 64, .inl (fun j => iI (a o 7 j)))) := by
  obtain rfl | rfl | rfl | rfl : o = 3 ∨ o = 4 ∨ o = 5 ∨ o = 6 := by omega
  all_goals rfl
theorem ws7G (ad : Nat → Nat → Nat) (cA : Nat → Nat → ClassId) (f : fS) (a : aS) (g : Nat → Int) (o : Nat) (h : 3 ≤ o ∧ o < 7) : (CW ad cA f a).set (19 + 7 * (o - 3)) (ad o 8, .inl (cA o 7, 64, .inl (fun j => iI (g j)))) = CW ad cA f (setA a o 7 g) := by
  obtain rfl | rfl | rfl | rfl : o = 3 ∨ o = 4 ∨ o = 5 ∨ o = 6 := by omega
  all_goals rfl
theorem wt7G (cA : Nat → Nat → ClassId) (o : Nat) (h : 3 ≤ o ∧ o < 7) : (taC cA)[(15 + 6 * (o - 3))]? = some (cA o 7, .int) := by
  obtain rfl | rfl | rfl | rfl : o = 3 ∨ o = 4 ∨ o = 5 ∨ o = 6 := by omega
  all_goals rfl
theorem wa8G (ad : Nat → Nat → Nat) (cA : Nat → Nat → ClassId) (f : fS) (a : aS) (o : Nat) (h : 3 ≤ o ∧ o < 7) : (CW ad cA f a)[(20 + 7 * (o - 3))]? = some (ad o 9, .inl (cA o 8, 64, .inl (fun j => iI (a o 8 j)))) := by
  obtain rfl | rfl | rfl | rfl : o = 3 ∨ o = 4 ∨ o = 5 ∨ o = 6 := by omega
  all_goals rfl
theorem ws8G (ad : Nat → Nat → Nat) (cA : Nat → Nat → ClassId) (f : fS) (a : aS) (g : Nat → Int) (o : Nat) (h : 3 ≤ o ∧ o < 7) : (CW ad cA f a).set (20 + 7 * (o - 3)) (ad o 9, .inl (cA o 8, 64, .inl (fun j => iI (g j)))) = CW ad cA f (setA a o 8 g) := by
  obtain rfl | rfl | rfl | rfl : o = 3 ∨ o = 4 ∨ o = 5 ∨ o = 6 := by omega
  all_goals rfl
theorem wt8G (cA : Nat → Nat → ClassId) (o : Nat) (h : 3 ≤ o ∧ o < 7) : (taC cA)[(16 + 6 * (o - 3))]? = some (cA o 8, .int) := by
  obtain rfl | rfl | rfl | rfl : o = 3 ∨ o = 4 ∨ o = 5 ∨ o = 6 := by omega
  all_goals rfl
def MW (ad : Nat → Nat → Nat) (cA : Nat → Nat → ClassId) (f : fS) (a : aS) : va_W :=
  [(ad 0 0, .inr (4, [.int (iI (f 0 0)), .int (iI (f 0 1)), .ref (ad 0 3), .ref (ad 0 4), .ref (ad 0 5), .ref (ad 0 6), .ref (ad 0 7), .ref (ad 0 8), .int (iI (f 0 8)), .int (iI (f 0 9)), .int (iI (f 0 10)), .ref (ad 0 12), .ref (ad 0 13), .ref (ad 0 14), .ref (ad 0 15), .ref (ad 0 16), .ref (ad 0 17), .ref (ad 0 18), .ref (ad 0 19), .ref (ad 0 20), .int (iI (f 0 20)), .int (iI (f 0 21)), .int (iI (f 0 22)), .int (iI (f 0 23)), .ref (ad 0 25)])),
   (ad 0 3, .inl (cA 0 2, 24, .inl (fun j => iI (a 0 2 j)))),
   (ad 0 4, .inl (cA 0 3, 4, .inl (fun j => iI (a 0 3 j)))),
   (ad 0 5, .inl (cA 0 4, 1536, .inl (fun j => iI (a 0 4 j)))),
   (ad 0 6, .inl (cA 0 5, 256, .inl (fun j => iI (a 0 5 j)))),
   (ad 0 7, .inl (cA 0 6, 256, .inl (fun j => iI (a 0 6 j)))),
   (ad 0 8, .inl (cA 0 7, 256, .inl (fun j => iI (a 0 7 j)))),
   (ad 0 12, .inl (cA 0 11, 256, .inl (fun j => iI (a 0 11 j)))),
   (ad 0 13, .inl (cA 0 12, 256, .inl (fun j => iI (a 0 12 j)))),
   (ad 0 14, .inl (cA 0 13, 256, .inl (fun j => iI (a 0 13 j)))),
   (ad 0 15, .inl (cA 0 14, 64, .inl (fun j => iI (a 0 14 j)))),
   (ad 0 16, .inl (cA 0 15, 384, .inl (fun j => iI (a 0 15 j)))),
   (ad 0 17, .inl (cA 0 16, 64, .inl (fun j => iI (a 0 16 j)))),
   (ad 0 18, .inl (cA 0 17, 64, .inl (fun j => iI (a 0 17 j)))),
   (ad 0 19, .inl (cA 0 18, 64, .inl (fun j => iI (a 0 18 j)))),
   (ad 0 20, .inl (cA 0 19, 64, .inl (fun j => iI (a 0 19 j)))),
   (ad 0 25, .inl (cA 0 24, 132, .inl (fun j => iI (a 0 24 j))))]
def taM (cA : Nat → Nat → ClassId) : List (ClassId × FieldType) :=
  [(cA 0 2, .int), (cA 0 3, .int), (cA 0 4, .int), (cA 0 5, .int), (cA 0 6, .int), (cA 0 7, .int), (cA 0 11, .int), (cA 0 12, .int), (cA 0 13, .int), (cA 0 14, .int), (cA 0 15, .int), (cA 0 16, .int), (cA 0 17, .int), (cA 0 18, .int), (cA 0 19, .int), (cA 0 24, .int)]
theorem woM (ad : Nat → Nat → Nat) (cA : Nat → Nat → ClassId) (f : fS) (a : aS) : (MW ad cA f a)[0]? = some (ad 0 0, .inr (4, [.int (iI (f 0 0)), .int (iI (f 0 1)), .ref (ad 0 3), .ref (ad 0 4), .ref (ad 0 5), .ref (ad 0 6), .ref (ad 0 7), .ref (ad 0 8), .int (iI (f 0 8)), .int (iI (f 0 9)), .int (iI (f 0 10)), .ref (ad 0 12), .ref (ad 0 13), .ref (ad 0 14), .ref (ad 0 15), .ref (ad 0 16), .ref (ad 0 17), .ref (ad 0 18), .ref (ad 0 19), .ref (ad 0 20), .int (iI (f 0 20)), .int (iI (f 0 21)), .int (iI (f 0 22)), .int (iI (f 0 23)), .ref (ad 0 25)])) := rfl
theorem wf0M (ad : Nat → Nat → Nat) (cA : Nat → Nat → ClassId) (f : fS) (a : aS) (v : Int) : (MW ad cA f a).set 0 (ad 0 0, .inr (4, ([.int (iI (f 0 0)), .int (iI (f 0 1)), .ref (ad 0 3), .ref (ad 0 4), .ref (ad 0 5), .ref (ad 0 6), .ref (ad 0 7), .ref (ad 0 8), .int (iI (f 0 8)), .int (iI (f 0 9)), .int (iI (f 0 10)), .ref (ad 0 12), .ref (ad 0 13), .ref (ad 0 14), .ref (ad 0 15), .ref (ad 0 16), .ref (ad 0 17), .ref (ad 0 18), .ref (ad 0 19), .ref (ad 0 20), .int (iI (f 0 20)), .int (iI (f 0 21)), .int (iI (f 0 22)), .int (iI (f 0 23)), .ref (ad 0 25)] : List Value).set 0 (.int (iI v)))) = MW ad cA (setF f 0 0 v) a := rfl
theorem wf1M (ad : Nat → Nat → Nat) (cA : Nat → Nat → ClassId) (f : fS) (a : aS) (v : Int) : (MW ad cA f a).set 0 (ad 0 0, .inr (4, ([.int (iI (f 0 0)), .int (iI (f 0 1)), .ref (ad 0 3), .ref (ad 0 4), .ref (ad 0 5), .ref (ad 0 6), .ref (ad 0 7), .ref (ad 0 8), .int (iI (f 0 8)), .int (iI (f 0 9)), .int (iI (f 0 10)), .ref (ad 0 12), .ref (ad 0 13), .ref (ad 0 14), .ref (ad 0 15), .ref (ad 0 16), .ref (ad 0 17), .ref (ad 0 18), .ref (ad 0 19), .ref (ad 0 20), .int (iI (f 0 20)), .int (iI (f 0 21)), .int (iI (f 0 22)), .int (iI (f 0 23)), .ref (ad 0 25)] : List Value).set 1 (.int (iI v)))) = MW ad cA (setF f 0 1 v) a := rfl
theorem wa2M (ad : Nat → Nat → Nat) (cA : Nat → Nat → ClassId) (f : fS) (a : aS) : (MW ad cA f a)[1]? = some (ad 0 3, .inl (cA 0 2, 24, .inl (fun j => iI (a 0 2 j)))) := rfl
theorem ws2M (ad : Nat → Nat → Nat) (cA : Nat → Nat → ClassId) (f : fS) (a : aS) (g : Nat → Int) : (MW ad cA f a).set 1 (ad 0 3, .inl (cA 0 2, 24, .inl (fun j => iI (g j)))) = MW ad cA f (setA a 0 2 g) := rfl
theorem wt2M (cA : Nat → Nat → ClassId) : (taM cA)[0]? = some (cA 0 2, .int) := rfl
theorem wa3M (ad : Nat → Nat → Nat) (cA : Nat → Nat → ClassId) (f : fS) (a : aS) : (MW ad cA f a)[2]? = some (ad 0 4, .inl (cA 0 3, 4, .inl (fun j => iI (a 0 3 j)))) := rfl
theorem ws3M (ad : Nat → Nat → Nat) (cA : Nat → Nat → ClassId) (f : fS) (a : aS) (g : Nat → Int) : (MW ad cA f a).set 2 (ad 0 4, .inl (cA 0 3, 4, .inl (fun j => iI (g j)))) = MW ad cA f (setA a 0 3 g) := rfl
theorem wt3M (cA : Nat → Nat → ClassId) : (taM cA)[1]? = some (cA 0 3, .int) := rfl
theorem wa4M (ad : Nat → Nat → Nat) (cA : Nat → Nat → ClassId) (f : fS) (a : aS) : (MW ad cA f a)[3]? = some (ad 0 5, .inl (cA 0 4, 1536, .inl (fun j => iI (a 0 4 j)))) := rfl
theorem ws4M (ad : Nat → Nat → Nat) (cA : Nat → Nat → ClassId) (f : fS) (a : aS) (g : Nat → Int) : (MW ad cA f a).set 3 (ad 0 5, .inl (cA 0 4, 1536, .inl (fun j => iI (g j)))) = MW ad cA f (setA a 0 4 g) := rfl
theorem wt4M (cA : Nat → Nat → ClassId) : (taM cA)[2]? = some (cA 0 4, .int) := rfl
theorem wa5M (ad : Nat → Nat → Nat) (cA : Nat → Nat → ClassId) (f : fS) (a : aS) : (MW ad cA f a)[4]? = some (ad 0 6, .inl (cA 0 5, 256, .inl (fun j => iI (a 0 5 j)))) := rfl
theorem ws5M (ad : Nat → Nat → Nat) (cA : Nat → Nat → ClassId) (f : fS) (a : aS) (g : Nat → Int) : (MW ad cA f a).set 4 (ad 0 6, .inl (cA 0 5, 256, .inl (fun j => iI (g j)))) = MW ad cA f (setA a 0 5 g) := rfl
theorem wt5M (cA : Nat → Nat → ClassId) : (taM cA)[3]? = some (cA 0 5, .int) := rfl
theorem wa6M (ad : Nat → Nat → Nat) (cA : Nat → Nat → ClassId) (f : fS) (a : aS) : (MW ad cA f a)[5]? = some (ad 0 7, .inl (cA 0 6, 256, .inl (fun j => iI (a 0 6 j)))) := rfl
theorem ws6M (ad : Nat → Nat → Nat) (cA : Nat → Nat → ClassId) (f : fS) (a : aS) (g : Nat → Int) : (MW ad cA f a).set 5 (ad 0 7, .inl (cA 0 6, 256, .inl (fun j => iI (g j)))) = MW ad cA f (setA a 0 6 g) := rfl
theorem wt6M (cA : Nat → Nat → ClassId) : (taM cA)[4]? = some (cA 0 6, .int) := rfl
theorem wa7M (ad : Nat → Nat → Nat) (cA : Nat → Nat → ClassId) (f : fS) (a : aS) : (MW ad cA f a)[6]? = some (ad 0 8, .inl (cA 0 7, 256, .inl (fun j => iI (a 0 7 j)))) := rfl
theorem ws7M (ad : Nat → Nat → Nat) (cA : Nat → Nat → ClassId) (f : fS) (a : aS) (g : Nat → Int) : (MW ad cA f a).set 6 (ad 0 8, .inl (cA 0 7, 256, .inl (fun j => iI (g j)))) = MW ad cA f (setA a 0 7 g) := rfl
theorem wt7M (cA : Nat → Nat → ClassId) : (taM cA)[5]? = some (cA 0 7, .int) := rfl
theorem wf8M (ad : Nat → Nat → Nat) (cA : Nat → Nat → ClassId) (f : fS) (a : aS) (v : Int) : (MW ad cA f a).set 0 (ad 0 0, .inr (4, ([.int (iI (f 0 0)), .int (iI (f 0 1)), .ref (ad 0 3), .ref (ad 0 4), .ref (ad 0 5), .ref (ad 0 6), .ref (ad 0 7), .ref (ad 0 8), .int (iI (f 0 8)), .int (iI (f 0 9)), .int (iI (f 0 10)), .ref (ad 0 12), .ref (ad 0 13), .ref (ad 0 14), .ref (ad 0 15), .ref (ad 0 16), .ref (ad 0 17), .ref (ad 0 18), .ref (ad 0 19), .ref (ad 0 20), .int (iI (f 0 20)), .int (iI (f 0 21)), .int (iI (f 0 22)), .int (iI (f 0 23)), .ref (ad 0 25)] : List Value).set 8 (.int (iI v)))) = MW ad cA (setF f 0 8 v) a := rfl
theorem wf9M (ad : Nat → Nat → Nat) (cA : Nat → Nat → ClassId) (f : fS) (a : aS) (v : Int) : (MW ad cA f a).set 0 (ad 0 0, .inr (4, ([.int (iI (f 0 0)), .int (iI (f 0 1)), .ref (ad 0 3), .ref (ad 0 4), .ref (ad 0 5), .ref (ad 0 6), .ref (ad 0 7), .ref (ad 0 8), .int (iI (f 0 8)), .int (iI (f 0 9)), .int (iI (f 0 10)), .ref (ad 0 12), .ref (ad 0 13), .ref (ad 0 14), .ref (ad 0 15), .ref (ad 0 16), .ref (ad 0 17), .ref (ad 0 18), .ref (ad 0 19), .ref (ad 0 20), .int (iI (f 0 20)), .int (iI (f 0 21)), .int (iI (f 0 22)), .int (iI (f 0 23)), .ref (ad 0 25)] : List Value).set 9 (.int (iI v)))) = MW ad cA (setF f 0 9 v) a := rfl
theorem wf10M (ad : Nat → Nat → Nat) (cA : Nat → Nat → ClassId) (f : fS) (a : aS) (v : Int) : (MW ad cA f a).set 0 (ad 0 0, .inr (4, ([.int (iI (f 0 0)), .int (iI (f 0 1)), .ref (ad 0 3), .ref (ad 0 4), .ref (ad 0 5), .ref (ad 0 6), .ref (ad 0 7), .ref (ad 0 8), .int (iI (f 0 8)), .int (iI (f 0 9)), .int (iI (f 0 10)), .ref (ad 0 12), .ref (ad 0 13), .ref (ad 0 14), .ref (ad 0 15), .ref (ad 0 16), .ref (ad 0 17), .ref (ad 0 18), .ref (ad 0 19), .ref (ad 0 20), .int (iI (f 0 20)), .int (iI (f 0 21)), .int (iI (f 0 22)), .int (iI (f 0 23)), .ref (ad 0 25)] : List Value).set 10 (.int (iI v)))) = MW ad cA (setF f 0 10 v) a := rfl
theorem wa11M (ad : Nat → Nat → Nat) (cA : Nat → Nat → ClassId) (f : fS) (a : aS) : (MW ad cA f a)[7]? = some (ad 0 12, .inl (cA 0 11, 256, .inl (fun j => iI (a 0 11 j)))) := rfl
theorem ws11M (ad : Nat → Nat → Nat) (cA : Nat → Nat → ClassId) (f : fS) (a : aS) (g : Nat → Int) : (MW ad cA f a).set 7 (ad 0 12, .inl (cA 0 11, 256, .inl (fun j => iI (g j)))) = MW ad cA f (setA a 0 11 g) := rfl
theorem wt11M (cA : Nat → Nat → ClassId) : (taM cA)[6]? = some (cA 0 11, .int) := rfl
theorem wa12M (ad : Nat → Nat → Nat) (cA : Nat → Nat → ClassId) (f : fS) (a : aS) : (MW ad cA f a)[8]? = some (ad 0 13, .inl (cA 0 12, 256, .inl (fun j => iI (a 0 12 j)))) := rfl
theorem ws12M (ad : Nat → Nat → Nat) (cA : Nat → Nat → ClassId) (f : fS) (a : aS) (g : Nat → Int) : (MW ad cA f a).set 8 (ad 0 13, .inl (cA 0 12, 256, .inl (fun j => iI (g j)))) = MW ad cA f (setA a 0 12 g) := rfl
theorem wt12M (cA : Nat → Nat → ClassId) : (taM cA)[7]? = some (cA 0 12, .int) := rfl
theorem wa13M (ad : Nat → Nat → Nat) (cA : Nat → Nat → ClassId) (f : fS) (a : aS) : (MW ad cA f a)[9]? = some (ad 0 14, .inl (cA 0 13, 256, .inl (fun j => iI (a 0 13 j)))) := rfl
theorem ws13M (ad : Nat → Nat → Nat) (cA : Nat → Nat → ClassId) (f : fS) (a : aS) (g : Nat → Int) : (MW ad cA f a).set 9 (ad 0 14, .inl (cA 0 13, 256, .inl (fun j => iI (g j)))) = MW ad cA f (setA a 0 13 g) := rfl
theorem wt13M (cA : Nat → Nat → ClassId) : (taM cA)[8]? = some (cA 0 13, .int) := rfl
theorem wa14M (ad : Nat → Nat → Nat) (cA : Nat → Nat → ClassId) (f : fS) (a : aS) : (MW ad cA f a)[10]? = some (ad 0 15, .inl (cA 0 14, 64, .inl (fun j => iI (a 0 14 j)))) := rfl
theorem ws14M (ad : Nat → Nat → Nat) (cA : Nat → Nat → ClassId) (f : fS) (a : aS) (g : Nat → Int) : (MW ad cA f a).set 10 (ad 0 15, .inl (cA 0 14, 64, .inl (fun j => iI (g j)))) = MW ad cA f (setA a 0 14 g) := rfl
theorem wt14M (cA : Nat → Nat → ClassId) : (taM cA)[9]? = some (cA 0 14, .int) := rfl
theorem wa15M (ad : Nat → Nat → Nat) (cA : Nat → Nat → ClassId) (f : fS) (a : aS) : (MW ad cA f a)[11]? = some (ad 0 16, .inl (cA 0 15, 384, .inl (fun j => iI (a 0 15 j)))) := rfl
theorem ws15M (ad : Nat → Nat → Nat) (cA : Nat → Nat → ClassId) (f : fS) (a : aS) (g : Nat → Int) : (MW ad cA f a).set 11 (ad 0 16, .inl (cA 0 15, 384, .inl (fun j => iI (g j)))) = MW ad cA f (setA a 0 15 g) := rfl
theorem wt15M (cA : Nat → Nat → ClassId) : (taM cA)[10]? = some (cA 0 15, .int) := rfl
theorem wa16M (ad : Nat → Nat → Nat) (cA : Nat → Nat → ClassId) (f : fS) (a : aS) : (MW ad cA f a)[12]? = some (ad 0 17, .inl (cA 0 16, 64, .inl (fun j => iI (a 0 16 j)))) := rfl
theorem ws16M (ad : Nat → Nat → Nat) (cA : Nat → Nat → ClassId) (f : fS) (a : aS) (g : Nat → Int) : (MW ad cA f a).set 12 (ad 0 17, .inl (cA 0 16, 64, .inl (fun j => iI (g j)))) = MW ad cA f (setA a 0 16 g) := rfl
theorem wt16M (cA : Nat → Nat → ClassId) : (taM cA)[11]? = some (cA 0 16, .int) := rfl
theorem wa17M (ad : Nat → Nat → Nat) (cA : Nat → Nat → ClassId) (f : fS) (a : aS) : (MW ad cA f a)[13]? = some (ad 0 18, .inl (cA 0 17, 64, .inl (fun j => iI (a 0 17 j)))) := rfl
theorem ws17M (ad : Nat → Nat → Nat) (cA : Nat → Nat → ClassId) (f : fS) (a : aS) (g : Nat → Int) : (MW ad cA f a).set 13 (ad 0 18, .inl (cA 0 17, 64, .inl (fun j => iI (g j)))) = MW ad cA f (setA a 0 17 g) := rfl
theorem wt17M (cA : Nat → Nat → ClassId) : (taM cA)[12]? = some (cA 0 17, .int) := rfl
theorem wa18M (ad : Nat → Nat → Nat) (cA : Nat → Nat → ClassId) (f : fS) (a : aS) : (MW ad cA f a)[14]? = some (ad 0 19, .inl (cA 0 18, 64, .inl (fun j => iI (a 0 18 j)))) := rfl
theorem ws18M (ad : Nat → Nat → Nat) (cA : Nat → Nat → ClassId) (f : fS) (a : aS) (g : Nat → Int) : (MW ad cA f a).set 14 (ad 0 19, .inl (cA 0 18, 64, .inl (fun j => iI (g j)))) = MW ad cA f (setA a 0 18 g) := rfl
theorem wt18M (cA : Nat → Nat → ClassId) : (taM cA)[13]? = some (cA 0 18, .int) := rfl
theorem wa19M (ad : Nat → Nat → Nat) (cA : Nat → Nat → ClassId) (f : fS) (a : aS) : (MW ad cA f a)[15]? = some (ad 0 20, .inl (cA 0 19, 64, .inl (fun j => iI (a 0 19 j)))) := rfl
theorem ws19M (ad : Nat → Nat → Nat) (cA : Nat → Nat → ClassId) (f : fS) (a : aS) (g : Nat → Int) : (MW ad cA f a).set 15 (ad 0 20, .inl (cA 0 19, 64, .inl (fun j => iI (g j)))) = MW ad cA f (setA a 0 19 g) := rfl
theorem wt19M (cA : Nat → Nat → ClassId) : (taM cA)[14]? = some (cA 0 19, .int) := rfl
theorem wf20M (ad : Nat → Nat → Nat) (cA : Nat → Nat → ClassId) (f : fS) (a : aS) (v : Int) : (MW ad cA f a).set 0 (ad 0 0, .inr (4, ([.int (iI (f 0 0)), .int (iI (f 0 1)), .ref (ad 0 3), .ref (ad 0 4), .ref (ad 0 5), .ref (ad 0 6), .ref (ad 0 7), .ref (ad 0 8), .int (iI (f 0 8)), .int (iI (f 0 9)), .int (iI (f 0 10)), .ref (ad 0 12), .ref (ad 0 13), .ref (ad 0 14), .ref (ad 0 15), .ref (ad 0 16), .ref (ad 0 17), .ref (ad 0 18), .ref (ad 0 19), .ref (ad 0 20), .int (iI (f 0 20)), .int (iI (f 0 21)), .int (iI (f 0 22)), .int (iI (f 0 23)), .ref (ad 0 25)] : List Value).set 20 (.int (iI v)))) = MW ad cA (setF f 0 20 v) a := rfl
theorem wf21M (ad : Nat → Nat → Nat) (cA : Nat → Nat → ClassId) (f : fS) (a : aS) (v : Int) : (MW ad cA f a).set 0 (ad 0 0, .inr (4, ([.int (iI (f 0 0)), .int (iI (f 0 1)), .ref (ad 0 3), .ref (ad 0 4), .ref (ad 0 5), .ref (ad 0 6), .ref (ad 0 7), .ref (ad 0 8), .int (iI (f 0 8)), .int (iI (f 0 9)), .int (iI (f 0 10)), .ref (ad 0 12), .ref (ad 0 13), .ref (ad 0 14), .ref (ad 0 15), .ref (ad 0 16), .ref (ad 0 17), .ref (ad 0 18), .ref (ad 0 19), .ref (ad 0 20), .int (iI (f 0 20)), .int (iI (f 0 21)), .int (iI (f 0 22)), .int (iI (f 0 23)), .ref (ad 0 25)] : List Value).set 21 (.int (iI v)))) = MW ad cA (setF f 0 21 v) a := rfl
theorem wf22M (ad : Nat → Nat → Nat) (cA : Nat → Nat → ClassId) (f : fS) (a : aS) (v : Int) : (MW ad cA f a).set 0 (ad 0 0, .inr (4, ([.int (iI (f 0 0)), .int (iI (f 0 1)), .ref (ad 0 3), .ref (ad 0 4), .ref (ad 0 5), .ref (ad 0 6), .ref (ad 0 7), .ref (ad 0 8), .int (iI (f 0 8)), .int (iI (f 0 9)), .int (iI (f 0 10)), .ref (ad 0 12), .ref (ad 0 13), .ref (ad 0 14), .ref (ad 0 15), .ref (ad 0 16), .ref (ad 0 17), .ref (ad 0 18), .ref (ad 0 19), .ref (ad 0 20), .int (iI (f 0 20)), .int (iI (f 0 21)), .int (iI (f 0 22)), .int (iI (f 0 23)), .ref (ad 0 25)] : List Value).set 22 (.int (iI v)))) = MW ad cA (setF f 0 22 v) a := rfl
theorem wf23M (ad : Nat → Nat → Nat) (cA : Nat → Nat → ClassId) (f : fS) (a : aS) (v : Int) : (MW ad cA f a).set 0 (ad 0 0, .inr (4, ([.int (iI (f 0 0)), .int (iI (f 0 1)), .ref (ad 0 3), .ref (ad 0 4), .ref (ad 0 5), .ref (ad 0 6), .ref (ad 0 7), .ref (ad 0 8), .int (iI (f 0 8)), .int (iI (f 0 9)), .int (iI (f 0 10)), .ref (ad 0 12), .ref (ad 0 13), .ref (ad 0 14), .ref (ad 0 15), .ref (ad 0 16), .ref (ad 0 17), .ref (ad 0 18), .ref (ad 0 19), .ref (ad 0 20), .int (iI (f 0 20)), .int (iI (f 0 21)), .int (iI (f 0 22)), .int (iI (f 0 23)), .ref (ad 0 25)] : List Value).set 23 (.int (iI v)))) = MW ad cA (setF f 0 23 v) a := rfl
theorem wa24M (ad : Nat → Nat → Nat) (cA : Nat → Nat → ClassId) (f : fS) (a : aS) : (MW ad cA f a)[16]? = some (ad 0 25, .inl (cA 0 24, 132, .inl (fun j => iI (a 0 24 j)))) := rfl
theorem ws24M (ad : Nat → Nat → Nat) (cA : Nat → Nat → ClassId) (f : fS) (a : aS) (g : Nat → Int) : (MW ad cA f a).set 16 (ad 0 25, .inl (cA 0 24, 132, .inl (fun j => iI (g j)))) = MW ad cA f (setA a 0 24 g) := rfl
theorem wt24M (cA : Nat → Nat → ClassId) : (taM cA)[15]? = some (cA 0 24, .int) := rfl
end
section
theorem dX_init_0 : decode cX_init 0 = .ok (.aload_n 0, 1) := by decide +kernel
theorem dX_init_1 : decode cX_init 1 = .ok (.invokespecial 3, 3) := by decide +kernel
theorem dX_init_4 : decode cX_init 4 = .ok (.aload_n 0, 1) := by decide +kernel
theorem dX_init_5 : decode cX_init 5 = .ok (.iconst 1, 1) := by decide +kernel
theorem dX_init_6 : decode cX_init 6 = .ok (.iconst 3, 1) := by decide +kernel
theorem dX_init_7 : decode cX_init 7 = .ok (.iload_n 1, 1) := by decide +kernel
theorem dX_init_8 : decode cX_init 8 = .ok (.invokestatic 9, 3) := by decide +kernel
theorem dX_init_11 : decode cX_init 11 = .ok (.invokestatic 15, 3) := by decide +kernel
theorem dX_init_14 : decode cX_init 14 = .ok (.putfield 18, 3) := by decide +kernel
theorem dX_init_17 : decode cX_init 17 = .ok (.aload_n 0, 1) := by decide +kernel
theorem dX_init_18 : decode cX_init 18 = .ok (.new 22, 3) := by decide +kernel
theorem dX_init_21 : decode cX_init 21 = .ok (.dup, 1) := by decide +kernel
theorem dX_init_22 : decode cX_init 22 = .ok (.invokespecial 24, 3) := by decide +kernel
theorem dX_init_25 : decode cX_init 25 = .ok (.putfield 25, 3) := by decide +kernel
theorem dX_init_28 : decode cX_init 28 = .ok (.aload_n 0, 1) := by decide +kernel
theorem dX_init_29 : decode cX_init 29 = .ok (.iconst 4, 1) := by decide +kernel
theorem dX_init_30 : decode cX_init 30 = .ok (.anewarray 29, 3) := by decide +kernel
theorem dX_init_33 : decode cX_init 33 = .ok (.putfield 31, 3) := by decide +kernel
theorem dX_init_36 : decode cX_init 36 = .ok (.iconst 0, 1) := by decide +kernel
theorem dX_init_37 : decode cX_init 37 = .ok (.istore_n 2, 1) := by decide +kernel
theorem dX_init_38 : decode cX_init 38 = .ok (.iload_n 2, 1) := by decide +kernel
theorem dX_init_39 : decode cX_init 39 = .ok (.iconst 4, 1) := by decide +kernel
theorem dX_init_40 : decode cX_init 40 = .ok (.if_icmp .ge 22, 3) := by decide +kernel
theorem dX_init_43 : decode cX_init 43 = .ok (.aload_n 0, 1) := by decide +kernel
theorem dX_init_44 : decode cX_init 44 = .ok (.getfield 31, 3) := by decide +kernel
theorem dX_init_47 : decode cX_init 47 = .ok (.iload_n 2, 1) := by decide +kernel
theorem dX_init_48 : decode cX_init 48 = .ok (.new 29, 3) := by decide +kernel
theorem dX_init_51 : decode cX_init 51 = .ok (.dup, 1) := by decide +kernel
theorem dX_init_52 : decode cX_init 52 = .ok (.invokespecial 35, 3) := by decide +kernel
theorem dX_init_55 : decode cX_init 55 = .ok (.aastore, 1) := by decide +kernel
theorem dX_init_56 : decode cX_init 56 = .ok (.iinc 2 1, 3) := by decide +kernel
theorem dX_init_59 : decode cX_init 59 = .ok (.goto (-21), 3) := by decide +kernel
theorem dX_init_62 : decode cX_init 62 = .ok (.aload_n 0, 1) := by decide +kernel
theorem dX_init_63 : decode cX_init 63 = .ok (.new 36, 3) := by decide +kernel
theorem dX_init_66 : decode cX_init 66 = .ok (.dup, 1) := by decide +kernel
theorem dX_init_67 : decode cX_init 67 = .ok (.invokespecial 38, 3) := by decide +kernel
theorem dX_init_70 : decode cX_init 70 = .ok (.putfield 39, 3) := by decide +kernel
theorem dX_init_73 : decode cX_init 73 = .ok (.return_, 1) := by decide +kernel
theorem dX_letter_0 : decode cX_letter 0 = .ok (.aload_n 0, 1) := by decide +kernel
theorem dX_letter_1 : decode cX_letter 1 = .ok (.iload_n 1, 1) := by decide +kernel
theorem dX_letter_2 : decode cX_letter 2 = .ok (.invokevirtual 43, 3) := by decide +kernel
theorem dX_letter_5 : decode cX_letter 5 = .ok (.ifCond .eq 14, 3) := by decide +kernel
theorem dX_letter_8 : decode cX_letter 8 = .ok (.aload_n 0, 1) := by decide +kernel
theorem dX_letter_9 : decode cX_letter 9 = .ok (.getfield 25, 3) := by decide +kernel
theorem dX_letter_12 : decode cX_letter 12 = .ok (.iload_n 1, 1) := by decide +kernel
theorem dX_letter_13 : decode cX_letter 13 = .ok (.invokevirtual 47, 3) := by decide +kernel
theorem dX_letter_16 : decode cX_letter 16 = .ok (.goto 4, 3) := by decide +kernel
theorem dX_letter_19 : decode cX_letter 19 = .ok (.iconst (-1), 1) := by decide +kernel
theorem dX_letter_20 : decode cX_letter 20 = .ok (.ireturn, 1) := by decide +kernel
theorem dX_clear_0 : decode cX_clear 0 = .ok (.aload_n 0, 1) := by decide +kernel
theorem dX_clear_1 : decode cX_clear 1 = .ok (.getfield 25, 3) := by decide +kernel
theorem dX_clear_4 : decode cX_clear 4 = .ok (.getfield 51, 3) := by decide +kernel
theorem dX_clear_7 : decode cX_clear 7 = .ok (.istore_n 1, 1) := by decide +kernel
theorem dX_clear_8 : decode cX_clear 8 = .ok (.aload_n 0, 1) := by decide +kernel
theorem dX_clear_9 : decode cX_clear 9 = .ok (.getfield 25, 3) := by decide +kernel
theorem dX_clear_12 : decode cX_clear 12 = .ok (.iconst 0, 1) := by decide +kernel
theorem dX_clear_13 : decode cX_clear 13 = .ok (.putfield 51, 3) := by decide +kernel
theorem dX_clear_16 : decode cX_clear 16 = .ok (.iload_n 1, 1) := by decide +kernel
theorem dX_clear_17 : decode cX_clear 17 = .ok (.ireturn, 1) := by decide +kernel
theorem dX_invert_0 : decode cX_invert 0 = .ok (.aload_n 0, 1) := by decide +kernel
theorem dX_invert_1 : decode cX_invert 1 = .ok (.getfield 25, 3) := by decide +kernel
theorem dX_invert_4 : decode cX_invert 4 = .ok (.invokevirtual 54, 3) := by decide +kernel
theorem dX_invert_7 : decode cX_invert 7 = .ok (.aload_n 0, 1) := by decide +kernel
theorem dX_invert_8 : decode cX_invert 8 = .ok (.getfield 25, 3) := by decide +kernel
theorem dX_invert_11 : decode cX_invert 11 = .ok (.getfield 51, 3) := by decide +kernel
theorem dX_invert_14 : decode cX_invert 14 = .ok (.ireturn, 1) := by decide +kernel
theorem dX_at_0 : decode cX_at 0 = .ok (.iload_n 1, 1) := by decide +kernel
theorem dX_at_1 : decode cX_at 1 = .ok (.ifCond .lt 26, 3) := by decide +kernel
theorem dX_at_4 : decode cX_at 4 = .ok (.iload_n 1, 1) := by decide +kernel
theorem dX_at_5 : decode cX_at 5 = .ok (.aload_n 0, 1) := by decide +kernel
theorem dX_at_6 : decode cX_at 6 = .ok (.getfield 25, 3) := by decide +kernel
theorem dX_at_9 : decode cX_at 9 = .ok (.getfield 51, 3) := by decide +kernel
theorem dX_at_12 : decode cX_at 12 = .ok (.if_icmp .ge 15, 3) := by decide +kernel
theorem dX_at_15 : decode cX_at 15 = .ok (.aload_n 0, 1) := by decide +kernel
theorem dX_at_16 : decode cX_at 16 = .ok (.getfield 25, 3) := by decide +kernel
theorem dX_at_19 : decode cX_at 19 = .ok (.getfield 57, 3) := by decide +kernel
theorem dX_at_22 : decode cX_at 22 = .ok (.iload_n 1, 1) := by decide +kernel
theorem dX_at_23 : decode cX_at 23 = .ok (.iaload, 1) := by decide +kernel
theorem dX_at_24 : decode cX_at 24 = .ok (.goto 4, 3) := by decide +kernel
theorem dX_at_27 : decode cX_at 27 = .ok (.iconst 0, 1) := by decide +kernel
theorem dX_at_28 : decode cX_at 28 = .ok (.ireturn, 1) := by decide +kernel
theorem dX_take_0 : decode cX_take 0 = .ok (.aload_n 0, 1) := by decide +kernel
theorem dX_take_1 : decode cX_take 1 = .ok (.iload_n 1, 1) := by decide +kernel
theorem dX_take_2 : decode cX_take 2 = .ok (.iload_n 2, 1) := by decide +kernel
theorem dX_take_3 : decode cX_take 3 = .ok (.invokevirtual 61, 3) := by decide +kernel
theorem dX_take_6 : decode cX_take 6 = .ok (.istore_n 3, 1) := by decide +kernel
theorem dX_take_7 : decode cX_take 7 = .ok (.iload_n 3, 1) := by decide +kernel
theorem dX_take_8 : decode cX_take 8 = .ok (.iconst (-1), 1) := by decide +kernel
theorem dX_take_9 : decode cX_take 9 = .ok (.if_icmp .ne 5, 3) := by decide +kernel
theorem dX_take_12 : decode cX_take 12 = .ok (.iconst (-1), 1) := by decide +kernel
theorem dX_take_13 : decode cX_take 13 = .ok (.ireturn, 1) := by decide +kernel
theorem dX_take_14 : decode cX_take 14 = .ok (.iload_n 3, 1) := by decide +kernel
theorem dX_take_15 : decode cX_take 15 = .ok (.bipush 24, 2) := by decide +kernel
theorem dX_take_17 : decode cX_take 17 = .ok (.if_icmp .le 6, 3) := by decide +kernel
theorem dX_take_20 : decode cX_take 20 = .ok (.bipush (-2), 2) := by decide +kernel
theorem dX_take_22 : decode cX_take 22 = .ok (.ireturn, 1) := by decide +kernel
theorem dX_take_23 : decode cX_take 23 = .ok (.aload_n 0, 1) := by decide +kernel
theorem dX_take_24 : decode cX_take 24 = .ok (.getfield 31, 3) := by decide +kernel
theorem dX_take_27 : decode cX_take 27 = .ok (.iload_n 1, 1) := by decide +kernel
theorem dX_take_28 : decode cX_take 28 = .ok (.aaload, 1) := by decide +kernel
theorem dX_take_29 : decode cX_take 29 = .ok (.astore 4, 2) := by decide +kernel
theorem dX_take_31 : decode cX_take 31 = .ok (.aload 4, 2) := by decide +kernel
theorem dX_take_33 : decode cX_take 33 = .ok (.iload_n 2, 1) := by decide +kernel
theorem dX_take_34 : decode cX_take 34 = .ok (.invokevirtual 64, 3) := by decide +kernel
theorem dX_take_37 : decode cX_take 37 = .ok (.istore 5, 2) := by decide +kernel
theorem dX_take_39 : decode cX_take 39 = .ok (.iconst 0, 1) := by decide +kernel
theorem dX_take_40 : decode cX_take 40 = .ok (.istore 6, 2) := by decide +kernel
theorem dX_take_42 : decode cX_take 42 = .ok (.iload 6, 2) := by decide +kernel
theorem dX_take_44 : decode cX_take 44 = .ok (.iload_n 3, 1) := by decide +kernel
theorem dX_take_45 : decode cX_take 45 = .ok (.if_icmp .ge 28, 3) := by decide +kernel
theorem dX_take_48 : decode cX_take 48 = .ok (.aload_n 0, 1) := by decide +kernel
theorem dX_take_49 : decode cX_take 49 = .ok (.getfield 25, 3) := by decide +kernel
theorem dX_take_52 : decode cX_take 52 = .ok (.getfield 57, 3) := by decide +kernel
theorem dX_take_55 : decode cX_take 55 = .ok (.iload 6, 2) := by decide +kernel
theorem dX_take_57 : decode cX_take 57 = .ok (.aload 4, 2) := by decide +kernel
theorem dX_take_59 : decode cX_take 59 = .ok (.iload 5, 2) := by decide +kernel
theorem dX_take_61 : decode cX_take 61 = .ok (.iload 6, 2) := by decide +kernel
theorem dX_take_63 : decode cX_take 63 = .ok (.invokevirtual 67, 3) := by decide +kernel
theorem dX_take_66 : decode cX_take 66 = .ok (.iastore, 1) := by decide +kernel
theorem dX_take_67 : decode cX_take 67 = .ok (.iinc 6 1, 3) := by decide +kernel
theorem dX_take_70 : decode cX_take 70 = .ok (.goto (-28), 3) := by decide +kernel
theorem dX_take_73 : decode cX_take 73 = .ok (.aload_n 0, 1) := by decide +kernel
theorem dX_take_74 : decode cX_take 74 = .ok (.getfield 25, 3) := by decide +kernel
theorem dX_take_77 : decode cX_take 77 = .ok (.iload_n 3, 1) := by decide +kernel
theorem dX_take_78 : decode cX_take 78 = .ok (.putfield 51, 3) := by decide +kernel
theorem dX_take_81 : decode cX_take 81 = .ok (.iload_n 3, 1) := by decide +kernel
theorem dX_take_82 : decode cX_take 82 = .ok (.ireturn, 1) := by decide +kernel
theorem dX_generate_0 : decode cX_generate 0 = .ok (.aload_n 0, 1) := by decide +kernel
theorem dX_generate_1 : decode cX_generate 1 = .ok (.iload_n 1, 1) := by decide +kernel
theorem dX_generate_2 : decode cX_generate 2 = .ok (.invokevirtual 70, 3) := by decide +kernel
theorem dX_generate_5 : decode cX_generate 5 = .ok (.ifCond .ne 5, 3) := by decide +kernel
theorem dX_generate_8 : decode cX_generate 8 = .ok (.iconst (-1), 1) := by decide +kernel
theorem dX_generate_9 : decode cX_generate 9 = .ok (.ireturn, 1) := by decide +kernel
theorem dX_generate_10 : decode cX_generate 10 = .ok (.iconst 0, 1) := by decide +kernel
theorem dX_generate_11 : decode cX_generate 11 = .ok (.aload_n 0, 1) := by decide +kernel
theorem dX_generate_12 : decode cX_generate 12 = .ok (.getfield 25, 3) := by decide +kernel
theorem dX_generate_15 : decode cX_generate 15 = .ok (.getfield 51, 3) := by decide +kernel
theorem dX_generate_18 : decode cX_generate 18 = .ok (.iconst 1, 1) := by decide +kernel
theorem dX_generate_19 : decode cX_generate 19 = .ok (.isub, 1) := by decide +kernel
theorem dX_generate_20 : decode cX_generate 20 = .ok (.invokestatic 15, 3) := by decide +kernel
theorem dX_generate_23 : decode cX_generate 23 = .ok (.istore_n 2, 1) := by decide +kernel
theorem dX_generate_24 : decode cX_generate 24 = .ok (.aload_n 0, 1) := by decide +kernel
theorem dX_generate_25 : decode cX_generate 25 = .ok (.getfield 31, 3) := by decide +kernel
theorem dX_generate_28 : decode cX_generate 28 = .ok (.iload_n 1, 1) := by decide +kernel
theorem dX_generate_29 : decode cX_generate 29 = .ok (.aaload, 1) := by decide +kernel
theorem dX_generate_30 : decode cX_generate 30 = .ok (.getfield 73, 3) := by decide +kernel
theorem dX_generate_33 : decode cX_generate 33 = .ok (.iload_n 2, 1) := by decide +kernel
theorem dX_generate_34 : decode cX_generate 34 = .ok (.iadd, 1) := by decide +kernel
theorem dX_generate_35 : decode cX_generate 35 = .ok (.bipush 64, 2) := by decide +kernel
theorem dX_generate_37 : decode cX_generate 37 = .ok (.if_icmp .le 6, 3) := by decide +kernel
theorem dX_generate_40 : decode cX_generate 40 = .ok (.bipush (-2), 2) := by decide +kernel
theorem dX_generate_42 : decode cX_generate 42 = .ok (.ireturn, 1) := by decide +kernel
theorem dX_generate_43 : decode cX_generate 43 = .ok (.aload_n 0, 1) := by decide +kernel
theorem dX_generate_44 : decode cX_generate 44 = .ok (.getfield 39, 3) := by decide +kernel
theorem dX_generate_47 : decode cX_generate 47 = .ok (.invokevirtual 74, 3) := by decide +kernel
theorem dX_generate_50 : decode cX_generate 50 = .ok (.aload_n 0, 1) := by decide +kernel
theorem dX_generate_51 : decode cX_generate 51 = .ok (.getfield 39, 3) := by decide +kernel
theorem dX_generate_54 : decode cX_generate 54 = .ok (.aload_n 0, 1) := by decide +kernel
theorem dX_generate_55 : decode cX_generate 55 = .ok (.getfield 31, 3) := by decide +kernel
theorem dX_generate_58 : decode cX_generate 58 = .ok (.iload_n 1, 1) := by decide +kernel
theorem dX_generate_59 : decode cX_generate 59 = .ok (.aaload, 1) := by decide +kernel
theorem dX_generate_60 : decode cX_generate 60 = .ok (.invokevirtual 77, 3) := by decide +kernel
theorem dX_generate_63 : decode cX_generate 63 = .ok (.aload_n 0, 1) := by decide +kernel
theorem dX_generate_64 : decode cX_generate 64 = .ok (.getfield 39, 3) := by decide +kernel
theorem dX_generate_67 : decode cX_generate 67 = .ok (.aload_n 0, 1) := by decide +kernel
theorem dX_generate_68 : decode cX_generate 68 = .ok (.getfield 25, 3) := by decide +kernel
theorem dX_generate_71 : decode cX_generate 71 = .ok (.invokevirtual 81, 3) := by decide +kernel
theorem dX_generate_74 : decode cX_generate 74 = .ok (.aload_n 0, 1) := by decide +kernel
theorem dX_generate_75 : decode cX_generate 75 = .ok (.getfield 39, 3) := by decide +kernel
theorem dX_generate_78 : decode cX_generate 78 = .ok (.invokevirtual 85, 3) := by decide +kernel
theorem dX_generate_81 : decode cX_generate 81 = .ok (.aload_n 0, 1) := by decide +kernel
theorem dX_generate_82 : decode cX_generate 82 = .ok (.getfield 39, 3) := by decide +kernel
theorem dX_generate_85 : decode cX_generate 85 = .ok (.aload_n 0, 1) := by decide +kernel
theorem dX_generate_86 : decode cX_generate 86 = .ok (.getfield 31, 3) := by decide +kernel
theorem dX_generate_89 : decode cX_generate 89 = .ok (.iload_n 1, 1) := by decide +kernel
theorem dX_generate_90 : decode cX_generate 90 = .ok (.aaload, 1) := by decide +kernel
theorem dX_generate_91 : decode cX_generate 91 = .ok (.invokevirtual 88, 3) := by decide +kernel
theorem dX_generate_94 : decode cX_generate 94 = .ok (.ireturn, 1) := by decide +kernel
theorem dX_drop_0 : decode cX_drop 0 = .ok (.aload_n 0, 1) := by decide +kernel
theorem dX_drop_1 : decode cX_drop 1 = .ok (.iload_n 1, 1) := by decide +kernel
theorem dX_drop_2 : decode cX_drop 2 = .ok (.invokevirtual 70, 3) := by decide +kernel
theorem dX_drop_5 : decode cX_drop 5 = .ok (.ifCond .ne 5, 3) := by decide +kernel
theorem dX_drop_8 : decode cX_drop 8 = .ok (.iconst (-1), 1) := by decide +kernel
theorem dX_drop_9 : decode cX_drop 9 = .ok (.ireturn, 1) := by decide +kernel
theorem dX_drop_10 : decode cX_drop 10 = .ok (.aload_n 0, 1) := by decide +kernel
theorem dX_drop_11 : decode cX_drop 11 = .ok (.getfield 31, 3) := by decide +kernel
theorem dX_drop_14 : decode cX_drop 14 = .ok (.iload_n 1, 1) := by decide +kernel
theorem dX_drop_15 : decode cX_drop 15 = .ok (.aaload, 1) := by decide +kernel
theorem dX_drop_16 : decode cX_drop 16 = .ok (.getfield 73, 3) := by decide +kernel
theorem dX_drop_19 : decode cX_drop 19 = .ok (.istore_n 2, 1) := by decide +kernel
theorem dX_drop_20 : decode cX_drop 20 = .ok (.aload_n 0, 1) := by decide +kernel
theorem dX_drop_21 : decode cX_drop 21 = .ok (.getfield 31, 3) := by decide +kernel
theorem dX_drop_24 : decode cX_drop 24 = .ok (.iload_n 1, 1) := by decide +kernel
theorem dX_drop_25 : decode cX_drop 25 = .ok (.aaload, 1) := by decide +kernel
theorem dX_drop_26 : decode cX_drop 26 = .ok (.invokevirtual 92, 3) := by decide +kernel
theorem dX_drop_29 : decode cX_drop 29 = .ok (.iload_n 2, 1) := by decide +kernel
theorem dX_drop_30 : decode cX_drop 30 = .ok (.ireturn, 1) := by decide +kernel
theorem dX_conjugate_0 : decode cX_conjugate 0 = .ok (.aload_n 0, 1) := by decide +kernel
theorem dX_conjugate_1 : decode cX_conjugate 1 = .ok (.iload_n 1, 1) := by decide +kernel
theorem dX_conjugate_2 : decode cX_conjugate 2 = .ok (.invokevirtual 70, 3) := by decide +kernel
theorem dX_conjugate_5 : decode cX_conjugate 5 = .ok (.ifCond .eq 11, 3) := by decide +kernel
theorem dX_conjugate_8 : decode cX_conjugate 8 = .ok (.aload_n 0, 1) := by decide +kernel
theorem dX_conjugate_9 : decode cX_conjugate 9 = .ok (.iload_n 2, 1) := by decide +kernel
theorem dX_conjugate_10 : decode cX_conjugate 10 = .ok (.invokevirtual 70, 3) := by decide +kernel
theorem dX_conjugate_13 : decode cX_conjugate 13 = .ok (.ifCond .ne 5, 3) := by decide +kernel
theorem dX_conjugate_16 : decode cX_conjugate 16 = .ok (.iconst (-1), 1) := by decide +kernel
theorem dX_conjugate_17 : decode cX_conjugate 17 = .ok (.ireturn, 1) := by decide +kernel
theorem dX_conjugate_18 : decode cX_conjugate 18 = .ok (.aload_n 0, 1) := by decide +kernel
theorem dX_conjugate_19 : decode cX_conjugate 19 = .ok (.getfield 31, 3) := by decide +kernel
theorem dX_conjugate_22 : decode cX_conjugate 22 = .ok (.iload_n 2, 1) := by decide +kernel
theorem dX_conjugate_23 : decode cX_conjugate 23 = .ok (.aaload, 1) := by decide +kernel
theorem dX_conjugate_24 : decode cX_conjugate 24 = .ok (.getfield 73, 3) := by decide +kernel
theorem dX_conjugate_27 : decode cX_conjugate 27 = .ok (.aload_n 0, 1) := by decide +kernel
theorem dX_conjugate_28 : decode cX_conjugate 28 = .ok (.getfield 25, 3) := by decide +kernel
theorem dX_conjugate_31 : decode cX_conjugate 31 = .ok (.getfield 51, 3) := by decide +kernel
theorem dX_conjugate_34 : decode cX_conjugate 34 = .ok (.iadd, 1) := by decide +kernel
theorem dX_conjugate_35 : decode cX_conjugate 35 = .ok (.bipush 64, 2) := by decide +kernel
theorem dX_conjugate_37 : decode cX_conjugate 37 = .ok (.if_icmp .le 6, 3) := by decide +kernel
theorem dX_conjugate_40 : decode cX_conjugate 40 = .ok (.bipush (-2), 2) := by decide +kernel
theorem dX_conjugate_42 : decode cX_conjugate 42 = .ok (.ireturn, 1) := by decide +kernel
theorem dX_conjugate_43 : decode cX_conjugate 43 = .ok (.aload_n 0, 1) := by decide +kernel
theorem dX_conjugate_44 : decode cX_conjugate 44 = .ok (.getfield 39, 3) := by decide +kernel
theorem dX_conjugate_47 : decode cX_conjugate 47 = .ok (.invokevirtual 74, 3) := by decide +kernel
theorem dX_conjugate_50 : decode cX_conjugate 50 = .ok (.aload_n 0, 1) := by decide +kernel
theorem dX_conjugate_51 : decode cX_conjugate 51 = .ok (.getfield 39, 3) := by decide +kernel
theorem dX_conjugate_54 : decode cX_conjugate 54 = .ok (.aload_n 0, 1) := by decide +kernel
theorem dX_conjugate_55 : decode cX_conjugate 55 = .ok (.getfield 31, 3) := by decide +kernel
theorem dX_conjugate_58 : decode cX_conjugate 58 = .ok (.iload_n 2, 1) := by decide +kernel
theorem dX_conjugate_59 : decode cX_conjugate 59 = .ok (.aaload, 1) := by decide +kernel
theorem dX_conjugate_60 : decode cX_conjugate 60 = .ok (.invokevirtual 77, 3) := by decide +kernel
theorem dX_conjugate_63 : decode cX_conjugate 63 = .ok (.aload_n 0, 1) := by decide +kernel
theorem dX_conjugate_64 : decode cX_conjugate 64 = .ok (.getfield 39, 3) := by decide +kernel
theorem dX_conjugate_67 : decode cX_conjugate 67 = .ok (.aload_n 0, 1) := by decide +kernel
theorem dX_conjugate_68 : decode cX_conjugate 68 = .ok (.getfield 25, 3) := by decide +kernel
theorem dX_conjugate_71 : decode cX_conjugate 71 = .ok (.invokevirtual 95, 3) := by decide +kernel
theorem dX_conjugate_74 : decode cX_conjugate 74 = .ok (.aload_n 0, 1) := by decide +kernel
theorem dX_conjugate_75 : decode cX_conjugate 75 = .ok (.getfield 39, 3) := by decide +kernel
theorem dX_conjugate_78 : decode cX_conjugate 78 = .ok (.invokevirtual 85, 3) := by decide +kernel
theorem dX_conjugate_81 : decode cX_conjugate 81 = .ok (.aload_n 0, 1) := by decide +kernel
theorem dX_conjugate_82 : decode cX_conjugate 82 = .ok (.getfield 39, 3) := by decide +kernel
theorem dX_conjugate_85 : decode cX_conjugate 85 = .ok (.invokevirtual 98, 3) := by decide +kernel
theorem dX_conjugate_88 : decode cX_conjugate 88 = .ok (.aload_n 0, 1) := by decide +kernel
theorem dX_conjugate_89 : decode cX_conjugate 89 = .ok (.getfield 39, 3) := by decide +kernel
theorem dX_conjugate_92 : decode cX_conjugate 92 = .ok (.aload_n 0, 1) := by decide +kernel
theorem dX_conjugate_93 : decode cX_conjugate 93 = .ok (.getfield 31, 3) := by decide +kernel
theorem dX_conjugate_96 : decode cX_conjugate 96 = .ok (.iload_n 1, 1) := by decide +kernel
theorem dX_conjugate_97 : decode cX_conjugate 97 = .ok (.aaload, 1) := by decide +kernel
theorem dX_conjugate_98 : decode cX_conjugate 98 = .ok (.invokevirtual 88, 3) := by decide +kernel
theorem dX_conjugate_101 : decode cX_conjugate 101 = .ok (.ireturn, 1) := by decide +kernel
theorem dX_meet_0 : decode cX_meet 0 = .ok (.aload_n 0, 1) := by decide +kernel
theorem dX_meet_1 : decode cX_meet 1 = .ok (.iload_n 1, 1) := by decide +kernel
theorem dX_meet_2 : decode cX_meet 2 = .ok (.invokevirtual 70, 3) := by decide +kernel
theorem dX_meet_5 : decode cX_meet 5 = .ok (.ifCond .eq 19, 3) := by decide +kernel
theorem dX_meet_8 : decode cX_meet 8 = .ok (.aload_n 0, 1) := by decide +kernel
theorem dX_meet_9 : decode cX_meet 9 = .ok (.iload_n 2, 1) := by decide +kernel
theorem dX_meet_10 : decode cX_meet 10 = .ok (.invokevirtual 70, 3) := by decide +kernel
theorem dX_meet_13 : decode cX_meet 13 = .ok (.ifCond .eq 11, 3) := by decide +kernel
theorem dX_meet_16 : decode cX_meet 16 = .ok (.aload_n 0, 1) := by decide +kernel
theorem dX_meet_17 : decode cX_meet 17 = .ok (.iload_n 3, 1) := by decide +kernel
theorem dX_meet_18 : decode cX_meet 18 = .ok (.invokevirtual 70, 3) := by decide +kernel
theorem dX_meet_21 : decode cX_meet 21 = .ok (.ifCond .ne 5, 3) := by decide +kernel
theorem dX_meet_24 : decode cX_meet 24 = .ok (.iconst (-1), 1) := by decide +kernel
theorem dX_meet_25 : decode cX_meet 25 = .ok (.ireturn, 1) := by decide +kernel
theorem dX_meet_26 : decode cX_meet 26 = .ok (.aload_n 0, 1) := by decide +kernel
theorem dX_meet_27 : decode cX_meet 27 = .ok (.getfield 39, 3) := by decide +kernel
theorem dX_meet_30 : decode cX_meet 30 = .ok (.invokevirtual 74, 3) := by decide +kernel
theorem dX_meet_33 : decode cX_meet 33 = .ok (.aload_n 0, 1) := by decide +kernel
theorem dX_meet_34 : decode cX_meet 34 = .ok (.getfield 39, 3) := by decide +kernel
theorem dX_meet_37 : decode cX_meet 37 = .ok (.aload_n 0, 1) := by decide +kernel
theorem dX_meet_38 : decode cX_meet 38 = .ok (.getfield 31, 3) := by decide +kernel
theorem dX_meet_41 : decode cX_meet 41 = .ok (.iload_n 2, 1) := by decide +kernel
theorem dX_meet_42 : decode cX_meet 42 = .ok (.aaload, 1) := by decide +kernel
theorem dX_meet_43 : decode cX_meet 43 = .ok (.aload_n 0, 1) := by decide +kernel
theorem dX_meet_44 : decode cX_meet 44 = .ok (.getfield 31, 3) := by decide +kernel
theorem dX_meet_47 : decode cX_meet 47 = .ok (.iload_n 3, 1) := by decide +kernel
theorem dX_meet_48 : decode cX_meet 48 = .ok (.aaload, 1) := by decide +kernel
theorem dX_meet_49 : decode cX_meet 49 = .ok (.invokevirtual 101, 3) := by decide +kernel
theorem dX_meet_52 : decode cX_meet 52 = .ok (.ifCond .ne 6, 3) := by decide +kernel
theorem dX_meet_55 : decode cX_meet 55 = .ok (.bipush (-2), 2) := by decide +kernel
theorem dX_meet_57 : decode cX_meet 57 = .ok (.ireturn, 1) := by decide +kernel
theorem dX_meet_58 : decode cX_meet 58 = .ok (.aload_n 0, 1) := by decide +kernel
theorem dX_meet_59 : decode cX_meet 59 = .ok (.getfield 39, 3) := by decide +kernel
theorem dX_meet_62 : decode cX_meet 62 = .ok (.invokevirtual 98, 3) := by decide +kernel
theorem dX_meet_65 : decode cX_meet 65 = .ok (.aload_n 0, 1) := by decide +kernel
theorem dX_meet_66 : decode cX_meet 66 = .ok (.getfield 39, 3) := by decide +kernel
theorem dX_meet_69 : decode cX_meet 69 = .ok (.aload_n 0, 1) := by decide +kernel
theorem dX_meet_70 : decode cX_meet 70 = .ok (.getfield 31, 3) := by decide +kernel
theorem dX_meet_73 : decode cX_meet 73 = .ok (.iload_n 1, 1) := by decide +kernel
theorem dX_meet_74 : decode cX_meet 74 = .ok (.aaload, 1) := by decide +kernel
theorem dX_meet_75 : decode cX_meet 75 = .ok (.invokevirtual 88, 3) := by decide +kernel
theorem dX_meet_78 : decode cX_meet 78 = .ok (.ireturn, 1) := by decide +kernel
theorem dX_join_0 : decode cX_join 0 = .ok (.aload_n 0, 1) := by decide +kernel
theorem dX_join_1 : decode cX_join 1 = .ok (.iload_n 1, 1) := by decide +kernel
theorem dX_join_2 : decode cX_join 2 = .ok (.invokevirtual 70, 3) := by decide +kernel
theorem dX_join_5 : decode cX_join 5 = .ok (.ifCond .eq 19, 3) := by decide +kernel
theorem dX_join_8 : decode cX_join 8 = .ok (.aload_n 0, 1) := by decide +kernel
theorem dX_join_9 : decode cX_join 9 = .ok (.iload_n 2, 1) := by decide +kernel
theorem dX_join_10 : decode cX_join 10 = .ok (.invokevirtual 70, 3) := by decide +kernel
theorem dX_join_13 : decode cX_join 13 = .ok (.ifCond .eq 11, 3) := by decide +kernel
theorem dX_join_16 : decode cX_join 16 = .ok (.aload_n 0, 1) := by decide +kernel
theorem dX_join_17 : decode cX_join 17 = .ok (.iload_n 3, 1) := by decide +kernel
theorem dX_join_18 : decode cX_join 18 = .ok (.invokevirtual 70, 3) := by decide +kernel
theorem dX_join_21 : decode cX_join 21 = .ok (.ifCond .ne 5, 3) := by decide +kernel
theorem dX_join_24 : decode cX_join 24 = .ok (.iconst (-1), 1) := by decide +kernel
theorem dX_join_25 : decode cX_join 25 = .ok (.ireturn, 1) := by decide +kernel
theorem dX_join_26 : decode cX_join 26 = .ok (.aload_n 0, 1) := by decide +kernel
theorem dX_join_27 : decode cX_join 27 = .ok (.getfield 31, 3) := by decide +kernel
theorem dX_join_30 : decode cX_join 30 = .ok (.iload_n 2, 1) := by decide +kernel
theorem dX_join_31 : decode cX_join 31 = .ok (.aaload, 1) := by decide +kernel
theorem dX_join_32 : decode cX_join 32 = .ok (.getfield 73, 3) := by decide +kernel
theorem dX_join_35 : decode cX_join 35 = .ok (.aload_n 0, 1) := by decide +kernel
theorem dX_join_36 : decode cX_join 36 = .ok (.getfield 31, 3) := by decide +kernel
theorem dX_join_39 : decode cX_join 39 = .ok (.iload_n 3, 1) := by decide +kernel
theorem dX_join_40 : decode cX_join 40 = .ok (.aaload, 1) := by decide +kernel
theorem dX_join_41 : decode cX_join 41 = .ok (.getfield 73, 3) := by decide +kernel
theorem dX_join_44 : decode cX_join 44 = .ok (.iadd, 1) := by decide +kernel
theorem dX_join_45 : decode cX_join 45 = .ok (.iconst 1, 1) := by decide +kernel
theorem dX_join_46 : decode cX_join 46 = .ok (.isub, 1) := by decide +kernel
theorem dX_join_47 : decode cX_join 47 = .ok (.bipush 64, 2) := by decide +kernel
theorem dX_join_49 : decode cX_join 49 = .ok (.if_icmp .le 6, 3) := by decide +kernel
theorem dX_join_52 : decode cX_join 52 = .ok (.bipush (-2), 2) := by decide +kernel
theorem dX_join_54 : decode cX_join 54 = .ok (.ireturn, 1) := by decide +kernel
theorem dX_join_55 : decode cX_join 55 = .ok (.aload_n 0, 1) := by decide +kernel
theorem dX_join_56 : decode cX_join 56 = .ok (.getfield 39, 3) := by decide +kernel
theorem dX_join_59 : decode cX_join 59 = .ok (.invokevirtual 74, 3) := by decide +kernel
theorem dX_join_62 : decode cX_join 62 = .ok (.aload_n 0, 1) := by decide +kernel
theorem dX_join_63 : decode cX_join 63 = .ok (.getfield 39, 3) := by decide +kernel
theorem dX_join_66 : decode cX_join 66 = .ok (.aload_n 0, 1) := by decide +kernel
theorem dX_join_67 : decode cX_join 67 = .ok (.getfield 31, 3) := by decide +kernel
theorem dX_join_70 : decode cX_join 70 = .ok (.iload_n 2, 1) := by decide +kernel
theorem dX_join_71 : decode cX_join 71 = .ok (.aaload, 1) := by decide +kernel
theorem dX_join_72 : decode cX_join 72 = .ok (.invokevirtual 77, 3) := by decide +kernel
theorem dX_join_75 : decode cX_join 75 = .ok (.aload_n 0, 1) := by decide +kernel
theorem dX_join_76 : decode cX_join 76 = .ok (.getfield 39, 3) := by decide +kernel
theorem dX_join_79 : decode cX_join 79 = .ok (.aload_n 0, 1) := by decide +kernel
theorem dX_join_80 : decode cX_join 80 = .ok (.getfield 31, 3) := by decide +kernel
theorem dX_join_83 : decode cX_join 83 = .ok (.iload_n 3, 1) := by decide +kernel
theorem dX_join_84 : decode cX_join 84 = .ok (.aaload, 1) := by decide +kernel
theorem dX_join_85 : decode cX_join 85 = .ok (.invokevirtual 77, 3) := by decide +kernel
theorem dX_join_88 : decode cX_join 88 = .ok (.aload_n 0, 1) := by decide +kernel
theorem dX_join_89 : decode cX_join 89 = .ok (.getfield 39, 3) := by decide +kernel
theorem dX_join_92 : decode cX_join 92 = .ok (.invokevirtual 85, 3) := by decide +kernel
theorem dX_join_95 : decode cX_join 95 = .ok (.aload_n 0, 1) := by decide +kernel
theorem dX_join_96 : decode cX_join 96 = .ok (.getfield 39, 3) := by decide +kernel
theorem dX_join_99 : decode cX_join 99 = .ok (.aload_n 0, 1) := by decide +kernel
theorem dX_join_100 : decode cX_join 100 = .ok (.getfield 31, 3) := by decide +kernel
theorem dX_join_103 : decode cX_join 103 = .ok (.iload_n 1, 1) := by decide +kernel
theorem dX_join_104 : decode cX_join 104 = .ok (.aaload, 1) := by decide +kernel
theorem dX_join_105 : decode cX_join 105 = .ok (.invokevirtual 88, 3) := by decide +kernel
theorem dX_join_108 : decode cX_join 108 = .ok (.ireturn, 1) := by decide +kernel
theorem dX_member_0 : decode cX_member 0 = .ok (.aload_n 0, 1) := by decide +kernel
theorem dX_member_1 : decode cX_member 1 = .ok (.iload_n 1, 1) := by decide +kernel
theorem dX_member_2 : decode cX_member 2 = .ok (.invokevirtual 105, 3) := by decide +kernel
theorem dX_member_5 : decode cX_member 5 = .ok (.ifCond .ne 7, 3) := by decide +kernel
theorem dX_member_8 : decode cX_member 8 = .ok (.iconst 1, 1) := by decide +kernel
theorem dX_member_9 : decode cX_member 9 = .ok (.goto 4, 3) := by decide +kernel
theorem dX_member_12 : decode cX_member 12 = .ok (.iconst 0, 1) := by decide +kernel
theorem dX_member_13 : decode cX_member 13 = .ok (.ireturn, 1) := by decide +kernel
theorem dX_trace_0 : decode cX_trace 0 = .ok (.aload_n 0, 1) := by decide +kernel
theorem dX_trace_1 : decode cX_trace 1 = .ok (.iload_n 1, 1) := by decide +kernel
theorem dX_trace_2 : decode cX_trace 2 = .ok (.invokevirtual 70, 3) := by decide +kernel
theorem dX_trace_5 : decode cX_trace 5 = .ok (.ifCond .ne 5, 3) := by decide +kernel
theorem dX_trace_8 : decode cX_trace 8 = .ok (.iconst (-1), 1) := by decide +kernel
theorem dX_trace_9 : decode cX_trace 9 = .ok (.ireturn, 1) := by decide +kernel
theorem dX_trace_10 : decode cX_trace 10 = .ok (.iconst 0, 1) := by decide +kernel
theorem dX_trace_11 : decode cX_trace 11 = .ok (.istore_n 2, 1) := by decide +kernel
theorem dX_trace_12 : decode cX_trace 12 = .ok (.iconst 0, 1) := by decide +kernel
theorem dX_trace_13 : decode cX_trace 13 = .ok (.istore_n 3, 1) := by decide +kernel
theorem dX_trace_14 : decode cX_trace 14 = .ok (.iload_n 3, 1) := by decide +kernel
theorem dX_trace_15 : decode cX_trace 15 = .ok (.aload_n 0, 1) := by decide +kernel
theorem dX_trace_16 : decode cX_trace 16 = .ok (.getfield 25, 3) := by decide +kernel
theorem dX_trace_19 : decode cX_trace 19 = .ok (.getfield 51, 3) := by decide +kernel
theorem dX_trace_22 : decode cX_trace 22 = .ok (.if_icmp .ge 37, 3) := by decide +kernel
theorem dX_trace_25 : decode cX_trace 25 = .ok (.iload_n 2, 1) := by decide +kernel
theorem dX_trace_26 : decode cX_trace 26 = .ok (.iconst (-1), 1) := by decide +kernel
theorem dX_trace_27 : decode cX_trace 27 = .ok (.if_icmp .eq 32, 3) := by decide +kernel
theorem dX_trace_30 : decode cX_trace 30 = .ok (.aload_n 0, 1) := by decide +kernel
theorem dX_trace_31 : decode cX_trace 31 = .ok (.getfield 31, 3) := by decide +kernel
theorem dX_trace_34 : decode cX_trace 34 = .ok (.iload_n 1, 1) := by decide +kernel
theorem dX_trace_35 : decode cX_trace 35 = .ok (.aaload, 1) := by decide +kernel
theorem dX_trace_36 : decode cX_trace 36 = .ok (.iload_n 2, 1) := by decide +kernel
theorem dX_trace_37 : decode cX_trace 37 = .ok (.aload_n 0, 1) := by decide +kernel
theorem dX_trace_38 : decode cX_trace 38 = .ok (.getfield 25, 3) := by decide +kernel
theorem dX_trace_41 : decode cX_trace 41 = .ok (.getfield 57, 3) := by decide +kernel
theorem dX_trace_44 : decode cX_trace 44 = .ok (.iload_n 3, 1) := by decide +kernel
theorem dX_trace_45 : decode cX_trace 45 = .ok (.iaload, 1) := by decide +kernel
theorem dX_trace_46 : decode cX_trace 46 = .ok (.invokestatic 108, 3) := by decide +kernel
theorem dX_trace_49 : decode cX_trace 49 = .ok (.invokevirtual 111, 3) := by decide +kernel
theorem dX_trace_52 : decode cX_trace 52 = .ok (.istore_n 2, 1) := by decide +kernel
theorem dX_trace_53 : decode cX_trace 53 = .ok (.iinc 3 1, 3) := by decide +kernel
theorem dX_trace_56 : decode cX_trace 56 = .ok (.goto (-42), 3) := by decide +kernel
theorem dX_trace_59 : decode cX_trace 59 = .ok (.iload_n 2, 1) := by decide +kernel
theorem dX_trace_60 : decode cX_trace 60 = .ok (.ireturn, 1) := by decide +kernel
theorem dX_written_0 : decode cX_written 0 = .ok (.aload_n 0, 1) := by decide +kernel
theorem dX_written_1 : decode cX_written 1 = .ok (.iload_n 1, 1) := by decide +kernel
theorem dX_written_2 : decode cX_written 2 = .ok (.invokevirtual 114, 3) := by decide +kernel
theorem dX_written_5 : decode cX_written 5 = .ok (.ifCond .ne 5, 3) := by decide +kernel
theorem dX_written_8 : decode cX_written 8 = .ok (.iconst 0, 1) := by decide +kernel
theorem dX_written_9 : decode cX_written 9 = .ok (.ireturn, 1) := by decide +kernel
theorem dX_written_10 : decode cX_written 10 = .ok (.aload_n 0, 1) := by decide +kernel
theorem dX_written_11 : decode cX_written 11 = .ok (.getfield 31, 3) := by decide +kernel
theorem dX_written_14 : decode cX_written 14 = .ok (.iload_n 1, 1) := by decide +kernel
theorem dX_written_15 : decode cX_written 15 = .ok (.aaload, 1) := by decide +kernel
theorem dX_written_16 : decode cX_written 16 = .ok (.astore_n 3, 1) := by decide +kernel
theorem dX_written_17 : decode cX_written 17 = .ok (.iconst 0, 1) := by decide +kernel
theorem dX_written_18 : decode cX_written 18 = .ok (.istore 4, 2) := by decide +kernel
theorem dX_written_20 : decode cX_written 20 = .ok (.iconst 0, 1) := by decide +kernel
theorem dX_written_21 : decode cX_written 21 = .ok (.istore 5, 2) := by decide +kernel
theorem dX_written_23 : decode cX_written 23 = .ok (.iconst 0, 1) := by decide +kernel
theorem dX_written_24 : decode cX_written 24 = .ok (.istore 6, 2) := by decide +kernel
theorem dX_written_26 : decode cX_written 26 = .ok (.iload 6, 2) := by decide +kernel
theorem dX_written_28 : decode cX_written 28 = .ok (.aload_n 0, 1) := by decide +kernel
theorem dX_written_29 : decode cX_written 29 = .ok (.getfield 25, 3) := by decide +kernel
theorem dX_written_32 : decode cX_written 32 = .ok (.getfield 51, 3) := by decide +kernel
theorem dX_written_35 : decode cX_written 35 = .ok (.if_icmp .ge 66, 3) := by decide +kernel
theorem dX_written_38 : decode cX_written 38 = .ok (.aload_n 0, 1) := by decide +kernel
theorem dX_written_39 : decode cX_written 39 = .ok (.getfield 25, 3) := by decide +kernel
theorem dX_written_42 : decode cX_written 42 = .ok (.getfield 57, 3) := by decide +kernel
theorem dX_written_45 : decode cX_written 45 = .ok (.iload 6, 2) := by decide +kernel
theorem dX_written_47 : decode cX_written 47 = .ok (.iaload, 1) := by decide +kernel
theorem dX_written_48 : decode cX_written 48 = .ok (.invokestatic 108, 3) := by decide +kernel
theorem dX_written_51 : decode cX_written 51 = .ok (.istore 7, 2) := by decide +kernel
theorem dX_written_53 : decode cX_written 53 = .ok (.aload_n 3, 1) := by decide +kernel
theorem dX_written_54 : decode cX_written 54 = .ok (.getfield 117, 3) := by decide +kernel
theorem dX_written_57 : decode cX_written 57 = .ok (.iload 4, 2) := by decide +kernel
theorem dX_written_59 : decode cX_written 59 = .ok (.bipush 6, 2) := by decide +kernel
theorem dX_written_61 : decode cX_written 61 = .ok (.imul, 1) := by decide +kernel
theorem dX_written_62 : decode cX_written 62 = .ok (.iload 7, 2) := by decide +kernel
theorem dX_written_64 : decode cX_written 64 = .ok (.iadd, 1) := by decide +kernel
theorem dX_written_65 : decode cX_written 65 = .ok (.iaload, 1) := by decide +kernel
theorem dX_written_66 : decode cX_written 66 = .ok (.istore 8, 2) := by decide +kernel
theorem dX_written_68 : decode cX_written 68 = .ok (.iload 8, 2) := by decide +kernel
theorem dX_written_70 : decode cX_written 70 = .ok (.ifCond .eq 15, 3) := by decide +kernel
theorem dX_written_73 : decode cX_written 73 = .ok (.iload 5, 2) := by decide +kernel
theorem dX_written_75 : decode cX_written 75 = .ok (.iload_n 2, 1) := by decide +kernel
theorem dX_written_76 : decode cX_written 76 = .ok (.if_icmp .ne 6, 3) := by decide +kernel
theorem dX_written_79 : decode cX_written 79 = .ok (.iload 8, 2) := by decide +kernel
theorem dX_written_81 : decode cX_written 81 = .ok (.ireturn, 1) := by decide +kernel
theorem dX_written_82 : decode cX_written 82 = .ok (.iinc 5 1, 3) := by decide +kernel
theorem dX_written_85 : decode cX_written 85 = .ok (.aload_n 3, 1) := by decide +kernel
theorem dX_written_86 : decode cX_written 86 = .ok (.iload 4, 2) := by decide +kernel
theorem dX_written_88 : decode cX_written 88 = .ok (.iload 7, 2) := by decide +kernel
theorem dX_written_90 : decode cX_written 90 = .ok (.invokevirtual 111, 3) := by decide +kernel
theorem dX_written_93 : decode cX_written 93 = .ok (.istore 4, 2) := by decide +kernel
theorem dX_written_95 : decode cX_written 95 = .ok (.iinc 6 1, 3) := by decide +kernel
theorem dX_written_98 : decode cX_written 98 = .ok (.goto (-72), 3) := by decide +kernel
theorem dX_written_101 : decode cX_written 101 = .ok (.iconst 0, 1) := by decide +kernel
theorem dX_written_102 : decode cX_written 102 = .ok (.ireturn, 1) := by decide +kernel
theorem dX_length_0 : decode cX_length 0 = .ok (.aload_n 0, 1) := by decide +kernel
theorem dX_length_1 : decode cX_length 1 = .ok (.iload_n 1, 1) := by decide +kernel
theorem dX_length_2 : decode cX_length 2 = .ok (.invokevirtual 70, 3) := by decide +kernel
theorem dX_length_5 : decode cX_length 5 = .ok (.ifCond .ne 5, 3) := by decide +kernel
theorem dX_length_8 : decode cX_length 8 = .ok (.iconst (-1), 1) := by decide +kernel
theorem dX_length_9 : decode cX_length 9 = .ok (.ireturn, 1) := by decide +kernel
theorem dX_length_10 : decode cX_length 10 = .ok (.aload_n 0, 1) := by decide +kernel
theorem dX_length_11 : decode cX_length 11 = .ok (.getfield 31, 3) := by decide +kernel
theorem dX_length_14 : decode cX_length 14 = .ok (.iload_n 1, 1) := by decide +kernel
theorem dX_length_15 : decode cX_length 15 = .ok (.aaload, 1) := by decide +kernel
theorem dX_length_16 : decode cX_length 16 = .ok (.iload_n 2, 1) := by decide +kernel
theorem dX_length_17 : decode cX_length 17 = .ok (.invokevirtual 64, 3) := by decide +kernel
theorem dX_length_20 : decode cX_length 20 = .ok (.istore_n 3, 1) := by decide +kernel
theorem dX_length_21 : decode cX_length 21 = .ok (.iload_n 3, 1) := by decide +kernel
theorem dX_length_22 : decode cX_length 22 = .ok (.iconst (-1), 1) := by decide +kernel
theorem dX_length_23 : decode cX_length 23 = .ok (.if_icmp .ne 7, 3) := by decide +kernel
theorem dX_length_26 : decode cX_length 26 = .ok (.iconst (-1), 1) := by decide +kernel
theorem dX_length_27 : decode cX_length 27 = .ok (.goto 13, 3) := by decide +kernel
theorem dX_length_30 : decode cX_length 30 = .ok (.aload_n 0, 1) := by decide +kernel
theorem dX_length_31 : decode cX_length 31 = .ok (.getfield 31, 3) := by decide +kernel
theorem dX_length_34 : decode cX_length 34 = .ok (.iload_n 1, 1) := by decide +kernel
theorem dX_length_35 : decode cX_length 35 = .ok (.aaload, 1) := by decide +kernel
theorem dX_length_36 : decode cX_length 36 = .ok (.iload_n 3, 1) := by decide +kernel
theorem dX_length_37 : decode cX_length 37 = .ok (.invokevirtual 120, 3) := by decide +kernel
theorem dX_length_40 : decode cX_length 40 = .ok (.ireturn, 1) := by decide +kernel
theorem dX_basis_0 : decode cX_basis 0 = .ok (.iload_n 3, 1) := by decide +kernel
theorem dX_basis_1 : decode cX_basis 1 = .ok (.ifCond .lt 13, 3) := by decide +kernel
theorem dX_basis_4 : decode cX_basis 4 = .ok (.iload_n 3, 1) := by decide +kernel
theorem dX_basis_5 : decode cX_basis 5 = .ok (.aload_n 0, 1) := by decide +kernel
theorem dX_basis_6 : decode cX_basis 6 = .ok (.iload_n 1, 1) := by decide +kernel
theorem dX_basis_7 : decode cX_basis 7 = .ok (.iload_n 2, 1) := by decide +kernel
theorem dX_basis_8 : decode cX_basis 8 = .ok (.invokevirtual 61, 3) := by decide +kernel
theorem dX_basis_11 : decode cX_basis 11 = .ok (.if_icmp .lt 5, 3) := by decide +kernel
theorem dX_basis_14 : decode cX_basis 14 = .ok (.iconst 0, 1) := by decide +kernel
theorem dX_basis_15 : decode cX_basis 15 = .ok (.ireturn, 1) := by decide +kernel
theorem dX_basis_16 : decode cX_basis 16 = .ok (.aload_n 0, 1) := by decide +kernel
theorem dX_basis_17 : decode cX_basis 17 = .ok (.getfield 31, 3) := by decide +kernel
theorem dX_basis_20 : decode cX_basis 20 = .ok (.iload_n 1, 1) := by decide +kernel
theorem dX_basis_21 : decode cX_basis 21 = .ok (.aaload, 1) := by decide +kernel
theorem dX_basis_22 : decode cX_basis 22 = .ok (.aload_n 0, 1) := by decide +kernel
theorem dX_basis_23 : decode cX_basis 23 = .ok (.getfield 31, 3) := by decide +kernel
theorem dX_basis_26 : decode cX_basis 26 = .ok (.iload_n 1, 1) := by decide +kernel
theorem dX_basis_27 : decode cX_basis 27 = .ok (.aaload, 1) := by decide +kernel
theorem dX_basis_28 : decode cX_basis 28 = .ok (.iload_n 2, 1) := by decide +kernel
theorem dX_basis_29 : decode cX_basis 29 = .ok (.invokevirtual 64, 3) := by decide +kernel
theorem dX_basis_32 : decode cX_basis 32 = .ok (.iload_n 3, 1) := by decide +kernel
theorem dX_basis_33 : decode cX_basis 33 = .ok (.invokevirtual 67, 3) := by decide +kernel
theorem dX_basis_36 : decode cX_basis 36 = .ok (.ireturn, 1) := by decide +kernel
theorem dX_target_0 : decode cX_target 0 = .ok (.aload_n 0, 1) := by decide +kernel
theorem dX_target_1 : decode cX_target 1 = .ok (.iload_n 1, 1) := by decide +kernel
theorem dX_target_2 : decode cX_target 2 = .ok (.invokevirtual 70, 3) := by decide +kernel
theorem dX_target_5 : decode cX_target 5 = .ok (.ifCond .eq 28, 3) := by decide +kernel
theorem dX_target_8 : decode cX_target 8 = .ok (.aload_n 0, 1) := by decide +kernel
theorem dX_target_9 : decode cX_target 9 = .ok (.iload_n 3, 1) := by decide +kernel
theorem dX_target_10 : decode cX_target 10 = .ok (.invokevirtual 43, 3) := by decide +kernel
theorem dX_target_13 : decode cX_target 13 = .ok (.ifCond .eq 20, 3) := by decide +kernel
theorem dX_target_16 : decode cX_target 16 = .ok (.iload_n 2, 1) := by decide +kernel
theorem dX_target_17 : decode cX_target 17 = .ok (.ifCond .lt 16, 3) := by decide +kernel
theorem dX_target_20 : decode cX_target 20 = .ok (.iload_n 2, 1) := by decide +kernel
theorem dX_target_21 : decode cX_target 21 = .ok (.aload_n 0, 1) := by decide +kernel
theorem dX_target_22 : decode cX_target 22 = .ok (.getfield 31, 3) := by decide +kernel
theorem dX_target_25 : decode cX_target 25 = .ok (.iload_n 1, 1) := by decide +kernel
theorem dX_target_26 : decode cX_target 26 = .ok (.aaload, 1) := by decide +kernel
theorem dX_target_27 : decode cX_target 27 = .ok (.getfield 73, 3) := by decide +kernel
theorem dX_target_30 : decode cX_target 30 = .ok (.if_icmp .lt 5, 3) := by decide +kernel
theorem dX_target_33 : decode cX_target 33 = .ok (.iconst (-1), 1) := by decide +kernel
theorem dX_target_34 : decode cX_target 34 = .ok (.ireturn, 1) := by decide +kernel
theorem dX_target_35 : decode cX_target 35 = .ok (.aload_n 0, 1) := by decide +kernel
theorem dX_target_36 : decode cX_target 36 = .ok (.getfield 31, 3) := by decide +kernel
theorem dX_target_39 : decode cX_target 39 = .ok (.iload_n 1, 1) := by decide +kernel
theorem dX_target_40 : decode cX_target 40 = .ok (.aaload, 1) := by decide +kernel
theorem dX_target_41 : decode cX_target 41 = .ok (.iload_n 2, 1) := by decide +kernel
theorem dX_target_42 : decode cX_target 42 = .ok (.iload_n 3, 1) := by decide +kernel
theorem dX_target_43 : decode cX_target 43 = .ok (.invokestatic 108, 3) := by decide +kernel
theorem dX_target_46 : decode cX_target 46 = .ok (.invokevirtual 111, 3) := by decide +kernel
theorem dX_target_49 : decode cX_target 49 = .ok (.ireturn, 1) := by decide +kernel
theorem dX_figure_0 : decode cX_figure 0 = .ok (.aload_n 0, 1) := by decide +kernel
theorem dX_figure_1 : decode cX_figure 1 = .ok (.iload_n 1, 1) := by decide +kernel
theorem dX_figure_2 : decode cX_figure 2 = .ok (.invokevirtual 70, 3) := by decide +kernel
theorem dX_figure_5 : decode cX_figure 5 = .ok (.ifCond .ne 5, 3) := by decide +kernel
theorem dX_figure_8 : decode cX_figure 8 = .ok (.iconst (-1), 1) := by decide +kernel
theorem dX_figure_9 : decode cX_figure 9 = .ok (.ireturn, 1) := by decide +kernel
theorem dX_figure_10 : decode cX_figure 10 = .ok (.aload_n 0, 1) := by decide +kernel
theorem dX_figure_11 : decode cX_figure 11 = .ok (.getfield 31, 3) := by decide +kernel
theorem dX_figure_14 : decode cX_figure 14 = .ok (.iload_n 1, 1) := by decide +kernel
theorem dX_figure_15 : decode cX_figure 15 = .ok (.aaload, 1) := by decide +kernel
theorem dX_figure_16 : decode cX_figure 16 = .ok (.astore_n 3, 1) := by decide +kernel
theorem dX_figure_17 : decode cX_figure 17 = .ok (.iload_n 2, 1) := by decide +kernel
theorem dX_figure_18 : decode cX_figure 18 = .ok (.tableswitch 62 0 3 #[30, 35, 40, 45], 30) := by decide +kernel
theorem dX_figure_48 : decode cX_figure 48 = .ok (.aload_n 3, 1) := by decide +kernel
theorem dX_figure_49 : decode cX_figure 49 = .ok (.getfield 73, 3) := by decide +kernel
theorem dX_figure_52 : decode cX_figure 52 = .ok (.ireturn, 1) := by decide +kernel
theorem dX_figure_53 : decode cX_figure 53 = .ok (.aload_n 3, 1) := by decide +kernel
theorem dX_figure_54 : decode cX_figure 54 = .ok (.getfield 123, 3) := by decide +kernel
theorem dX_figure_57 : decode cX_figure 57 = .ok (.ireturn, 1) := by decide +kernel
theorem dX_figure_58 : decode cX_figure 58 = .ok (.aload_n 3, 1) := by decide +kernel
theorem dX_figure_59 : decode cX_figure 59 = .ok (.getfield 126, 3) := by decide +kernel
theorem dX_figure_62 : decode cX_figure 62 = .ok (.ireturn, 1) := by decide +kernel
theorem dX_figure_63 : decode cX_figure 63 = .ok (.aload_n 0, 1) := by decide +kernel
theorem dX_figure_64 : decode cX_figure 64 = .ok (.aload_n 3, 1) := by decide +kernel
theorem dX_figure_65 : decode cX_figure 65 = .ok (.invokevirtual 129, 3) := by decide +kernel
theorem dX_figure_68 : decode cX_figure 68 = .ok (.ifCond .eq 10, 3) := by decide +kernel
theorem dX_figure_71 : decode cX_figure 71 = .ok (.aload_n 3, 1) := by decide +kernel
theorem dX_figure_72 : decode cX_figure 72 = .ok (.getfield 73, 3) := by decide +kernel
theorem dX_figure_75 : decode cX_figure 75 = .ok (.goto 4, 3) := by decide +kernel
theorem dX_figure_78 : decode cX_figure 78 = .ok (.iconst 0, 1) := by decide +kernel
theorem dX_figure_79 : decode cX_figure 79 = .ok (.ireturn, 1) := by decide +kernel
theorem dX_figure_80 : decode cX_figure 80 = .ok (.iconst (-1), 1) := by decide +kernel
theorem dX_figure_81 : decode cX_figure 81 = .ok (.ireturn, 1) := by decide +kernel
theorem dX_contains_0 : decode cX_contains 0 = .ok (.aload_n 0, 1) := by decide +kernel
theorem dX_contains_1 : decode cX_contains 1 = .ok (.iload_n 1, 1) := by decide +kernel
theorem dX_contains_2 : decode cX_contains 2 = .ok (.invokevirtual 70, 3) := by decide +kernel
theorem dX_contains_5 : decode cX_contains 5 = .ok (.ifCond .eq 34, 3) := by decide +kernel
theorem dX_contains_8 : decode cX_contains 8 = .ok (.aload_n 0, 1) := by decide +kernel
theorem dX_contains_9 : decode cX_contains 9 = .ok (.iload_n 2, 1) := by decide +kernel
theorem dX_contains_10 : decode cX_contains 10 = .ok (.invokevirtual 70, 3) := by decide +kernel
theorem dX_contains_13 : decode cX_contains 13 = .ok (.ifCond .eq 26, 3) := by decide +kernel
theorem dX_contains_16 : decode cX_contains 16 = .ok (.aload_n 0, 1) := by decide +kernel
theorem dX_contains_17 : decode cX_contains 17 = .ok (.getfield 31, 3) := by decide +kernel
theorem dX_contains_20 : decode cX_contains 20 = .ok (.iload_n 2, 1) := by decide +kernel
theorem dX_contains_21 : decode cX_contains 21 = .ok (.aaload, 1) := by decide +kernel
theorem dX_contains_22 : decode cX_contains 22 = .ok (.aload_n 0, 1) := by decide +kernel
theorem dX_contains_23 : decode cX_contains 23 = .ok (.getfield 31, 3) := by decide +kernel
theorem dX_contains_26 : decode cX_contains 26 = .ok (.iload_n 1, 1) := by decide +kernel
theorem dX_contains_27 : decode cX_contains 27 = .ok (.aaload, 1) := by decide +kernel
theorem dX_contains_28 : decode cX_contains 28 = .ok (.iconst 0, 1) := by decide +kernel
theorem dX_contains_29 : decode cX_contains 29 = .ok (.invokevirtual 133, 3) := by decide +kernel
theorem dX_contains_32 : decode cX_contains 32 = .ok (.ifCond .eq 7, 3) := by decide +kernel
theorem dX_contains_35 : decode cX_contains 35 = .ok (.iconst 1, 1) := by decide +kernel
theorem dX_contains_36 : decode cX_contains 36 = .ok (.goto 4, 3) := by decide +kernel
theorem dX_contains_39 : decode cX_contains 39 = .ok (.iconst 0, 1) := by decide +kernel
theorem dX_contains_40 : decode cX_contains 40 = .ok (.ireturn, 1) := by decide +kernel
theorem dX_normal_0 : decode cX_normal 0 = .ok (.aload_n 0, 1) := by decide +kernel
theorem dX_normal_1 : decode cX_normal 1 = .ok (.iload_n 1, 1) := by decide +kernel
theorem dX_normal_2 : decode cX_normal 2 = .ok (.invokevirtual 70, 3) := by decide +kernel
theorem dX_normal_5 : decode cX_normal 5 = .ok (.ifCond .ne 5, 3) := by decide +kernel
theorem dX_normal_8 : decode cX_normal 8 = .ok (.iconst 0, 1) := by decide +kernel
theorem dX_normal_9 : decode cX_normal 9 = .ok (.ireturn, 1) := by decide +kernel
theorem dX_normal_10 : decode cX_normal 10 = .ok (.aload_n 0, 1) := by decide +kernel
theorem dX_normal_11 : decode cX_normal 11 = .ok (.getfield 31, 3) := by decide +kernel
theorem dX_normal_14 : decode cX_normal 14 = .ok (.iload_n 1, 1) := by decide +kernel
theorem dX_normal_15 : decode cX_normal 15 = .ok (.aaload, 1) := by decide +kernel
theorem dX_normal_16 : decode cX_normal 16 = .ok (.astore_n 2, 1) := by decide +kernel
theorem dX_normal_17 : decode cX_normal 17 = .ok (.aload_n 2, 1) := by decide +kernel
theorem dX_normal_18 : decode cX_normal 18 = .ok (.getfield 123, 3) := by decide +kernel
theorem dX_normal_21 : decode cX_normal 21 = .ok (.ifCond .ne 5, 3) := by decide +kernel
theorem dX_normal_24 : decode cX_normal 24 = .ok (.iconst 1, 1) := by decide +kernel
theorem dX_normal_25 : decode cX_normal 25 = .ok (.ireturn, 1) := by decide +kernel
theorem dX_normal_26 : decode cX_normal 26 = .ok (.aload_n 0, 1) := by decide +kernel
theorem dX_normal_27 : decode cX_normal 27 = .ok (.aload_n 2, 1) := by decide +kernel
theorem dX_normal_28 : decode cX_normal 28 = .ok (.invokevirtual 129, 3) := by decide +kernel
theorem dX_normal_31 : decode cX_normal 31 = .ok (.ifCond .ne 5, 3) := by decide +kernel
theorem dX_normal_34 : decode cX_normal 34 = .ok (.iconst 0, 1) := by decide +kernel
theorem dX_normal_35 : decode cX_normal 35 = .ok (.ireturn, 1) := by decide +kernel
theorem dX_normal_36 : decode cX_normal 36 = .ok (.iconst 1, 1) := by decide +kernel
theorem dX_normal_37 : decode cX_normal 37 = .ok (.istore_n 3, 1) := by decide +kernel
theorem dX_normal_38 : decode cX_normal 38 = .ok (.iload_n 3, 1) := by decide +kernel
theorem dX_normal_39 : decode cX_normal 39 = .ok (.aload_n 0, 1) := by decide +kernel
theorem dX_normal_40 : decode cX_normal 40 = .ok (.getfield 18, 3) := by decide +kernel
theorem dX_normal_43 : decode cX_normal 43 = .ok (.if_icmp .gt 28, 3) := by decide +kernel
theorem dX_normal_46 : decode cX_normal 46 = .ok (.aload_n 2, 1) := by decide +kernel
theorem dX_normal_47 : decode cX_normal 47 = .ok (.aload_n 2, 1) := by decide +kernel
theorem dX_normal_48 : decode cX_normal 48 = .ok (.aload_n 2, 1) := by decide +kernel
theorem dX_normal_49 : decode cX_normal 49 = .ok (.iconst 0, 1) := by decide +kernel
theorem dX_normal_50 : decode cX_normal 50 = .ok (.iload_n 3, 1) := by decide +kernel
theorem dX_normal_51 : decode cX_normal 51 = .ok (.invokestatic 108, 3) := by decide +kernel
theorem dX_normal_54 : decode cX_normal 54 = .ok (.invokevirtual 111, 3) := by decide +kernel
theorem dX_normal_57 : decode cX_normal 57 = .ok (.invokevirtual 133, 3) := by decide +kernel
theorem dX_normal_60 : decode cX_normal 60 = .ok (.ifCond .ne 5, 3) := by decide +kernel
theorem dX_normal_63 : decode cX_normal 63 = .ok (.iconst 0, 1) := by decide +kernel
theorem dX_normal_64 : decode cX_normal 64 = .ok (.ireturn, 1) := by decide +kernel
theorem dX_normal_65 : decode cX_normal 65 = .ok (.iinc 3 1, 3) := by decide +kernel
theorem dX_normal_68 : decode cX_normal 68 = .ok (.goto (-30), 3) := by decide +kernel
theorem dX_normal_71 : decode cX_normal 71 = .ok (.iconst 1, 1) := by decide +kernel
theorem dX_normal_72 : decode cX_normal 72 = .ok (.ireturn, 1) := by decide +kernel
theorem dX_isSubgroup_0 : decode cX_isSubgroup 0 = .ok (.iload_n 1, 1) := by decide +kernel
theorem dX_isSubgroup_1 : decode cX_isSubgroup 1 = .ok (.ifCond .lt 12, 3) := by decide +kernel
theorem dX_isSubgroup_4 : decode cX_isSubgroup 4 = .ok (.iload_n 1, 1) := by decide +kernel
theorem dX_isSubgroup_5 : decode cX_isSubgroup 5 = .ok (.iconst 4, 1) := by decide +kernel
theorem dX_isSubgroup_6 : decode cX_isSubgroup 6 = .ok (.if_icmp .ge 7, 3) := by decide +kernel
theorem dX_isSubgroup_9 : decode cX_isSubgroup 9 = .ok (.iconst 1, 1) := by decide +kernel
theorem dX_isSubgroup_10 : decode cX_isSubgroup 10 = .ok (.goto 4, 3) := by decide +kernel
theorem dX_isSubgroup_13 : decode cX_isSubgroup 13 = .ok (.iconst 0, 1) := by decide +kernel
theorem dX_isSubgroup_14 : decode cX_isSubgroup 14 = .ok (.ireturn, 1) := by decide +kernel
theorem dX_isLetter_0 : decode cX_isLetter 0 = .ok (.iload_n 1, 1) := by decide +kernel
theorem dX_isLetter_1 : decode cX_isLetter 1 = .ok (.ifCond .eq 24, 3) := by decide +kernel
theorem dX_isLetter_4 : decode cX_isLetter 4 = .ok (.iload_n 1, 1) := by decide +kernel
theorem dX_isLetter_5 : decode cX_isLetter 5 = .ok (.aload_n 0, 1) := by decide +kernel
theorem dX_isLetter_6 : decode cX_isLetter 6 = .ok (.getfield 18, 3) := by decide +kernel
theorem dX_isLetter_9 : decode cX_isLetter 9 = .ok (.ineg, 1) := by decide +kernel
theorem dX_isLetter_10 : decode cX_isLetter 10 = .ok (.if_icmp .lt 15, 3) := by decide +kernel
theorem dX_isLetter_13 : decode cX_isLetter 13 = .ok (.iload_n 1, 1) := by decide +kernel
theorem dX_isLetter_14 : decode cX_isLetter 14 = .ok (.aload_n 0, 1) := by decide +kernel
theorem dX_isLetter_15 : decode cX_isLetter 15 = .ok (.getfield 18, 3) := by decide +kernel
theorem dX_isLetter_18 : decode cX_isLetter 18 = .ok (.if_icmp .gt 7, 3) := by decide +kernel
theorem dX_isLetter_21 : decode cX_isLetter 21 = .ok (.iconst 1, 1) := by decide +kernel
theorem dX_isLetter_22 : decode cX_isLetter 22 = .ok (.goto 4, 3) := by decide +kernel
theorem dX_isLetter_25 : decode cX_isLetter 25 = .ok (.iconst 0, 1) := by decide +kernel
theorem dX_isLetter_26 : decode cX_isLetter 26 = .ok (.ireturn, 1) := by decide +kernel
theorem dX_isComplete_0 : decode cX_isComplete 0 = .ok (.aload_n 1, 1) := by decide +kernel
theorem dX_isComplete_1 : decode cX_isComplete 1 = .ok (.getfield 123, 3) := by decide +kernel
theorem dX_isComplete_4 : decode cX_isComplete 4 = .ok (.aload_n 1, 1) := by decide +kernel
theorem dX_isComplete_5 : decode cX_isComplete 5 = .ok (.getfield 73, 3) := by decide +kernel
theorem dX_isComplete_8 : decode cX_isComplete 8 = .ok (.aload_n 0, 1) := by decide +kernel
theorem dX_isComplete_9 : decode cX_isComplete 9 = .ok (.getfield 18, 3) := by decide +kernel
theorem dX_isComplete_12 : decode cX_isComplete 12 = .ok (.imul, 1) := by decide +kernel
theorem dX_isComplete_13 : decode cX_isComplete 13 = .ok (.if_icmp .ne 7, 3) := by decide +kernel
theorem dX_isComplete_16 : decode cX_isComplete 16 = .ok (.iconst 1, 1) := by decide +kernel
theorem dX_isComplete_17 : decode cX_isComplete 17 = .ok (.goto 4, 3) := by decide +kernel
theorem dX_isComplete_20 : decode cX_isComplete 20 = .ok (.iconst 0, 1) := by decide +kernel
theorem dX_isComplete_21 : decode cX_isComplete 21 = .ok (.ireturn, 1) := by decide +kernel
theorem dX_codeOf_0 : decode cX_codeOf 0 = .ok (.iload_n 0, 1) := by decide +kernel
theorem dX_codeOf_1 : decode cX_codeOf 1 = .ok (.ifCond .le 11, 3) := by decide +kernel
theorem dX_codeOf_4 : decode cX_codeOf 4 = .ok (.iconst 2, 1) := by decide +kernel
theorem dX_codeOf_5 : decode cX_codeOf 5 = .ok (.iload_n 0, 1) := by decide +kernel
theorem dX_codeOf_6 : decode cX_codeOf 6 = .ok (.imul, 1) := by decide +kernel
theorem dX_codeOf_7 : decode cX_codeOf 7 = .ok (.iconst 2, 1) := by decide +kernel
theorem dX_codeOf_8 : decode cX_codeOf 8 = .ok (.isub, 1) := by decide +kernel
theorem dX_codeOf_9 : decode cX_codeOf 9 = .ok (.goto 9, 3) := by decide +kernel
theorem dX_codeOf_12 : decode cX_codeOf 12 = .ok (.bipush (-2), 2) := by decide +kernel
theorem dX_codeOf_14 : decode cX_codeOf 14 = .ok (.iload_n 0, 1) := by decide +kernel
theorem dX_codeOf_15 : decode cX_codeOf 15 = .ok (.imul, 1) := by decide +kernel
theorem dX_codeOf_16 : decode cX_codeOf 16 = .ok (.iconst 1, 1) := by decide +kernel
theorem dX_codeOf_17 : decode cX_codeOf 17 = .ok (.isub, 1) := by decide +kernel
theorem dX_codeOf_18 : decode cX_codeOf 18 = .ok (.ireturn, 1) := by decide +kernel
theorem dX_letterOf_0 : decode cX_letterOf 0 = .ok (.iload_n 0, 1) := by decide +kernel
theorem dX_letterOf_1 : decode cX_letterOf 1 = .ok (.iconst 1, 1) := by decide +kernel
theorem dX_letterOf_2 : decode cX_letterOf 2 = .ok (.ishr, 1) := by decide +kernel
theorem dX_letterOf_3 : decode cX_letterOf 3 = .ok (.iconst 1, 1) := by decide +kernel
theorem dX_letterOf_4 : decode cX_letterOf 4 = .ok (.iadd, 1) := by decide +kernel
theorem dX_letterOf_5 : decode cX_letterOf 5 = .ok (.istore_n 1, 1) := by decide +kernel
theorem dX_letterOf_6 : decode cX_letterOf 6 = .ok (.iload_n 0, 1) := by decide +kernel
theorem dX_letterOf_7 : decode cX_letterOf 7 = .ok (.iconst 1, 1) := by decide +kernel
theorem dX_letterOf_8 : decode cX_letterOf 8 = .ok (.iand, 1) := by decide +kernel
theorem dX_letterOf_9 : decode cX_letterOf 9 = .ok (.ifCond .ne 7, 3) := by decide +kernel
theorem dX_letterOf_12 : decode cX_letterOf 12 = .ok (.iload_n 1, 1) := by decide +kernel
theorem dX_letterOf_13 : decode cX_letterOf 13 = .ok (.goto 5, 3) := by decide +kernel
theorem dX_letterOf_16 : decode cX_letterOf 16 = .ok (.iload_n 1, 1) := by decide +kernel
theorem dX_letterOf_17 : decode cX_letterOf 17 = .ok (.ineg, 1) := by decide +kernel
theorem dX_letterOf_18 : decode cX_letterOf 18 = .ok (.ireturn, 1) := by decide +kernel
theorem dM_init_0 : decode cM_init 0 = .ok (.aload_n 0, 1) := by decide +kernel
theorem dM_init_1 : decode cM_init 1 = .ok (.invokespecial 1, 3) := by decide +kernel
theorem dM_init_4 : decode cM_init 4 = .ok (.aload_n 0, 1) := by decide +kernel
theorem dM_init_5 : decode cM_init 5 = .ok (.bipush 24, 2) := by decide +kernel
theorem dM_init_7 : decode cM_init 7 = .ok (.newarray .int, 2) := by decide +kernel
theorem dM_init_9 : decode cM_init 9 = .ok (.putfield 7, 3) := by decide +kernel
theorem dM_init_12 : decode cM_init 12 = .ok (.aload_n 0, 1) := by decide +kernel
theorem dM_init_13 : decode cM_init 13 = .ok (.iconst 4, 1) := by decide +kernel
theorem dM_init_14 : decode cM_init 14 = .ok (.newarray .int, 2) := by decide +kernel
theorem dM_init_16 : decode cM_init 16 = .ok (.putfield 13, 3) := by decide +kernel
theorem dM_init_19 : decode cM_init 19 = .ok (.aload_n 0, 1) := by decide +kernel
theorem dM_init_20 : decode cM_init 20 = .ok (.sipush 1536, 3) := by decide +kernel
end
section
theorem dM_init_23 : decode cM_init 23 = .ok (.newarray .int, 2) := by decide +kernel
theorem dM_init_25 : decode cM_init 25 = .ok (.putfield 16, 3) := by decide +kernel
theorem dM_init_28 : decode cM_init 28 = .ok (.aload_n 0, 1) := by decide +kernel
theorem dM_init_29 : decode cM_init 29 = .ok (.sipush 256, 3) := by decide +kernel
theorem dM_init_32 : decode cM_init 32 = .ok (.newarray .int, 2) := by decide +kernel
theorem dM_init_34 : decode cM_init 34 = .ok (.putfield 19, 3) := by decide +kernel
theorem dM_init_37 : decode cM_init 37 = .ok (.aload_n 0, 1) := by decide +kernel
theorem dM_init_38 : decode cM_init 38 = .ok (.sipush 256, 3) := by decide +kernel
theorem dM_init_41 : decode cM_init 41 = .ok (.newarray .int, 2) := by decide +kernel
theorem dM_init_43 : decode cM_init 43 = .ok (.putfield 22, 3) := by decide +kernel
theorem dM_init_46 : decode cM_init 46 = .ok (.aload_n 0, 1) := by decide +kernel
theorem dM_init_47 : decode cM_init 47 = .ok (.sipush 256, 3) := by decide +kernel
theorem dM_init_50 : decode cM_init 50 = .ok (.newarray .int, 2) := by decide +kernel
theorem dM_init_52 : decode cM_init 52 = .ok (.putfield 25, 3) := by decide +kernel
theorem dM_init_55 : decode cM_init 55 = .ok (.aload_n 0, 1) := by decide +kernel
theorem dM_init_56 : decode cM_init 56 = .ok (.sipush 256, 3) := by decide +kernel
theorem dM_init_59 : decode cM_init 59 = .ok (.newarray .int, 2) := by decide +kernel
theorem dM_init_61 : decode cM_init 61 = .ok (.putfield 28, 3) := by decide +kernel
theorem dM_init_64 : decode cM_init 64 = .ok (.aload_n 0, 1) := by decide +kernel
theorem dM_init_65 : decode cM_init 65 = .ok (.sipush 256, 3) := by decide +kernel
theorem dM_init_68 : decode cM_init 68 = .ok (.newarray .int, 2) := by decide +kernel
theorem dM_init_70 : decode cM_init 70 = .ok (.putfield 31, 3) := by decide +kernel
theorem dM_init_73 : decode cM_init 73 = .ok (.aload_n 0, 1) := by decide +kernel
theorem dM_init_74 : decode cM_init 74 = .ok (.sipush 256, 3) := by decide +kernel
theorem dM_init_77 : decode cM_init 77 = .ok (.newarray .int, 2) := by decide +kernel
theorem dM_init_79 : decode cM_init 79 = .ok (.putfield 34, 3) := by decide +kernel
theorem dM_init_82 : decode cM_init 82 = .ok (.aload_n 0, 1) := by decide +kernel
theorem dM_init_83 : decode cM_init 83 = .ok (.bipush 64, 2) := by decide +kernel
theorem dM_init_85 : decode cM_init 85 = .ok (.newarray .int, 2) := by decide +kernel
theorem dM_init_87 : decode cM_init 87 = .ok (.putfield 37, 3) := by decide +kernel
theorem dM_init_90 : decode cM_init 90 = .ok (.aload_n 0, 1) := by decide +kernel
theorem dM_init_91 : decode cM_init 91 = .ok (.sipush 384, 3) := by decide +kernel
theorem dM_init_94 : decode cM_init 94 = .ok (.newarray .int, 2) := by decide +kernel
theorem dM_init_96 : decode cM_init 96 = .ok (.putfield 40, 3) := by decide +kernel
theorem dM_init_99 : decode cM_init 99 = .ok (.aload_n 0, 1) := by decide +kernel
theorem dM_init_100 : decode cM_init 100 = .ok (.bipush 64, 2) := by decide +kernel
theorem dM_init_102 : decode cM_init 102 = .ok (.newarray .int, 2) := by decide +kernel
theorem dM_init_104 : decode cM_init 104 = .ok (.putfield 43, 3) := by decide +kernel
theorem dM_init_107 : decode cM_init 107 = .ok (.aload_n 0, 1) := by decide +kernel
theorem dM_init_108 : decode cM_init 108 = .ok (.bipush 64, 2) := by decide +kernel
theorem dM_init_110 : decode cM_init 110 = .ok (.newarray .int, 2) := by decide +kernel
theorem dM_init_112 : decode cM_init 112 = .ok (.putfield 46, 3) := by decide +kernel
theorem dM_init_115 : decode cM_init 115 = .ok (.aload_n 0, 1) := by decide +kernel
theorem dM_init_116 : decode cM_init 116 = .ok (.bipush 64, 2) := by decide +kernel
theorem dM_init_118 : decode cM_init 118 = .ok (.newarray .int, 2) := by decide +kernel
theorem dM_init_120 : decode cM_init 120 = .ok (.putfield 49, 3) := by decide +kernel
theorem dM_init_123 : decode cM_init 123 = .ok (.aload_n 0, 1) := by decide +kernel
theorem dM_init_124 : decode cM_init 124 = .ok (.bipush 64, 2) := by decide +kernel
theorem dM_init_126 : decode cM_init 126 = .ok (.newarray .int, 2) := by decide +kernel
theorem dM_init_128 : decode cM_init 128 = .ok (.putfield 52, 3) := by decide +kernel
theorem dM_init_131 : decode cM_init 131 = .ok (.aload_n 0, 1) := by decide +kernel
theorem dM_init_132 : decode cM_init 132 = .ok (.sipush 132, 3) := by decide +kernel
theorem dM_init_135 : decode cM_init 135 = .ok (.newarray .int, 2) := by decide +kernel
theorem dM_init_137 : decode cM_init 137 = .ok (.putfield 55, 3) := by decide +kernel
theorem dM_init_140 : decode cM_init 140 = .ok (.aload_n 0, 1) := by decide +kernel
theorem dM_init_141 : decode cM_init 141 = .ok (.iload_n 1, 1) := by decide +kernel
theorem dM_init_142 : decode cM_init 142 = .ok (.iconst 1, 1) := by decide +kernel
theorem dM_init_143 : decode cM_init 143 = .ok (.if_icmp .ge 7, 3) := by decide +kernel
theorem dM_init_146 : decode cM_init 146 = .ok (.iconst 1, 1) := by decide +kernel
theorem dM_init_147 : decode cM_init 147 = .ok (.goto 13, 3) := by decide +kernel
theorem dM_init_150 : decode cM_init 150 = .ok (.iload_n 1, 1) := by decide +kernel
theorem dM_init_151 : decode cM_init 151 = .ok (.iconst 3, 1) := by decide +kernel
theorem dM_init_152 : decode cM_init 152 = .ok (.if_icmp .le 7, 3) := by decide +kernel
theorem dM_init_155 : decode cM_init 155 = .ok (.iconst 3, 1) := by decide +kernel
theorem dM_init_156 : decode cM_init 156 = .ok (.goto 4, 3) := by decide +kernel
theorem dM_init_159 : decode cM_init 159 = .ok (.iload_n 1, 1) := by decide +kernel
theorem dM_init_160 : decode cM_init 160 = .ok (.putfield 58, 3) := by decide +kernel
theorem dM_init_163 : decode cM_init 163 = .ok (.iconst 0, 1) := by decide +kernel
theorem dM_init_164 : decode cM_init 164 = .ok (.istore_n 2, 1) := by decide +kernel
theorem dM_init_165 : decode cM_init 165 = .ok (.iload_n 2, 1) := by decide +kernel
theorem dM_init_166 : decode cM_init 166 = .ok (.sipush 1536, 3) := by decide +kernel
theorem dM_init_169 : decode cM_init 169 = .ok (.if_icmp .ge 16, 3) := by decide +kernel
theorem dM_init_172 : decode cM_init 172 = .ok (.aload_n 0, 1) := by decide +kernel
theorem dM_init_173 : decode cM_init 173 = .ok (.getfield 16, 3) := by decide +kernel
theorem dM_init_176 : decode cM_init 176 = .ok (.iload_n 2, 1) := by decide +kernel
theorem dM_init_177 : decode cM_init 177 = .ok (.iconst (-1), 1) := by decide +kernel
theorem dM_init_178 : decode cM_init 178 = .ok (.iastore, 1) := by decide +kernel
theorem dM_init_179 : decode cM_init 179 = .ok (.iinc 2 1, 3) := by decide +kernel
theorem dM_init_182 : decode cM_init 182 = .ok (.goto (-17), 3) := by decide +kernel
theorem dM_init_185 : decode cM_init 185 = .ok (.iconst 0, 1) := by decide +kernel
theorem dM_init_186 : decode cM_init 186 = .ok (.istore_n 2, 1) := by decide +kernel
theorem dM_init_187 : decode cM_init 187 = .ok (.iload_n 2, 1) := by decide +kernel
theorem dM_init_188 : decode cM_init 188 = .ok (.iconst 4, 1) := by decide +kernel
theorem dM_init_189 : decode cM_init 189 = .ok (.if_icmp .ge 16, 3) := by decide +kernel
theorem dM_init_192 : decode cM_init 192 = .ok (.aload_n 0, 1) := by decide +kernel
theorem dM_init_193 : decode cM_init 193 = .ok (.getfield 13, 3) := by decide +kernel
theorem dM_init_196 : decode cM_init 196 = .ok (.iload_n 2, 1) := by decide +kernel
theorem dM_init_197 : decode cM_init 197 = .ok (.iconst 1, 1) := by decide +kernel
theorem dM_init_198 : decode cM_init 198 = .ok (.iastore, 1) := by decide +kernel
theorem dM_init_199 : decode cM_init 199 = .ok (.iinc 2 1, 3) := by decide +kernel
theorem dM_init_202 : decode cM_init 202 = .ok (.goto (-15), 3) := by decide +kernel
theorem dM_init_205 : decode cM_init 205 = .ok (.return_, 1) := by decide +kernel
theorem dM_isLetter_0 : decode cM_isLetter 0 = .ok (.iload_n 1, 1) := by decide +kernel
theorem dM_isLetter_1 : decode cM_isLetter 1 = .ok (.ifCond .eq 24, 3) := by decide +kernel
theorem dM_isLetter_4 : decode cM_isLetter 4 = .ok (.iload_n 1, 1) := by decide +kernel
theorem dM_isLetter_5 : decode cM_isLetter 5 = .ok (.aload_n 0, 1) := by decide +kernel
theorem dM_isLetter_6 : decode cM_isLetter 6 = .ok (.getfield 58, 3) := by decide +kernel
theorem dM_isLetter_9 : decode cM_isLetter 9 = .ok (.ineg, 1) := by decide +kernel
theorem dM_isLetter_10 : decode cM_isLetter 10 = .ok (.if_icmp .lt 15, 3) := by decide +kernel
theorem dM_isLetter_13 : decode cM_isLetter 13 = .ok (.iload_n 1, 1) := by decide +kernel
theorem dM_isLetter_14 : decode cM_isLetter 14 = .ok (.aload_n 0, 1) := by decide +kernel
theorem dM_isLetter_15 : decode cM_isLetter 15 = .ok (.getfield 58, 3) := by decide +kernel
theorem dM_isLetter_18 : decode cM_isLetter 18 = .ok (.if_icmp .gt 7, 3) := by decide +kernel
theorem dM_isLetter_21 : decode cM_isLetter 21 = .ok (.iconst 1, 1) := by decide +kernel
theorem dM_isLetter_22 : decode cM_isLetter 22 = .ok (.goto 4, 3) := by decide +kernel
theorem dM_isLetter_25 : decode cM_isLetter 25 = .ok (.iconst 0, 1) := by decide +kernel
theorem dM_isLetter_26 : decode cM_isLetter 26 = .ok (.ireturn, 1) := by decide +kernel
theorem dM_isGroup_0 : decode cM_isGroup 0 = .ok (.iload_n 0, 1) := by decide +kernel
theorem dM_isGroup_1 : decode cM_isGroup 1 = .ok (.ifCond .lt 12, 3) := by decide +kernel
theorem dM_isGroup_4 : decode cM_isGroup 4 = .ok (.iload_n 0, 1) := by decide +kernel
theorem dM_isGroup_5 : decode cM_isGroup 5 = .ok (.iconst 4, 1) := by decide +kernel
theorem dM_isGroup_6 : decode cM_isGroup 6 = .ok (.if_icmp .ge 7, 3) := by decide +kernel
theorem dM_isGroup_9 : decode cM_isGroup 9 = .ok (.iconst 1, 1) := by decide +kernel
theorem dM_isGroup_10 : decode cM_isGroup 10 = .ok (.goto 4, 3) := by decide +kernel
theorem dM_isGroup_13 : decode cM_isGroup 13 = .ok (.iconst 0, 1) := by decide +kernel
theorem dM_isGroup_14 : decode cM_isGroup 14 = .ok (.ireturn, 1) := by decide +kernel
theorem dM_numberOf_0 : decode cM_numberOf 0 = .ok (.iload_n 0, 1) := by decide +kernel
theorem dM_numberOf_1 : decode cM_numberOf 1 = .ok (.ifCond .le 11, 3) := by decide +kernel
theorem dM_numberOf_4 : decode cM_numberOf 4 = .ok (.iconst 2, 1) := by decide +kernel
theorem dM_numberOf_5 : decode cM_numberOf 5 = .ok (.iload_n 0, 1) := by decide +kernel
theorem dM_numberOf_6 : decode cM_numberOf 6 = .ok (.imul, 1) := by decide +kernel
theorem dM_numberOf_7 : decode cM_numberOf 7 = .ok (.iconst 2, 1) := by decide +kernel
theorem dM_numberOf_8 : decode cM_numberOf 8 = .ok (.isub, 1) := by decide +kernel
theorem dM_numberOf_9 : decode cM_numberOf 9 = .ok (.goto 9, 3) := by decide +kernel
theorem dM_numberOf_12 : decode cM_numberOf 12 = .ok (.bipush (-2), 2) := by decide +kernel
theorem dM_numberOf_14 : decode cM_numberOf 14 = .ok (.iload_n 0, 1) := by decide +kernel
theorem dM_numberOf_15 : decode cM_numberOf 15 = .ok (.imul, 1) := by decide +kernel
theorem dM_numberOf_16 : decode cM_numberOf 16 = .ok (.iconst 1, 1) := by decide +kernel
theorem dM_numberOf_17 : decode cM_numberOf 17 = .ok (.isub, 1) := by decide +kernel
theorem dM_numberOf_18 : decode cM_numberOf 18 = .ok (.ireturn, 1) := by decide +kernel
theorem dM_letterOf_0 : decode cM_letterOf 0 = .ok (.iload_n 0, 1) := by decide +kernel
theorem dM_letterOf_1 : decode cM_letterOf 1 = .ok (.iconst 2, 1) := by decide +kernel
theorem dM_letterOf_2 : decode cM_letterOf 2 = .ok (.irem, 1) := by decide +kernel
theorem dM_letterOf_3 : decode cM_letterOf 3 = .ok (.ifCond .ne 11, 3) := by decide +kernel
theorem dM_letterOf_6 : decode cM_letterOf 6 = .ok (.iload_n 0, 1) := by decide +kernel
theorem dM_letterOf_7 : decode cM_letterOf 7 = .ok (.iconst 2, 1) := by decide +kernel
theorem dM_letterOf_8 : decode cM_letterOf 8 = .ok (.idiv, 1) := by decide +kernel
theorem dM_letterOf_9 : decode cM_letterOf 9 = .ok (.iconst 1, 1) := by decide +kernel
theorem dM_letterOf_10 : decode cM_letterOf 10 = .ok (.iadd, 1) := by decide +kernel
theorem dM_letterOf_11 : decode cM_letterOf 11 = .ok (.goto 9, 3) := by decide +kernel
theorem dM_letterOf_14 : decode cM_letterOf 14 = .ok (.iload_n 0, 1) := by decide +kernel
theorem dM_letterOf_15 : decode cM_letterOf 15 = .ok (.iconst 2, 1) := by decide +kernel
theorem dM_letterOf_16 : decode cM_letterOf 16 = .ok (.idiv, 1) := by decide +kernel
theorem dM_letterOf_17 : decode cM_letterOf 17 = .ok (.ineg, 1) := by decide +kernel
theorem dM_letterOf_18 : decode cM_letterOf 18 = .ok (.iconst 1, 1) := by decide +kernel
theorem dM_letterOf_19 : decode cM_letterOf 19 = .ok (.isub, 1) := by decide +kernel
theorem dM_letterOf_20 : decode cM_letterOf 20 = .ok (.ireturn, 1) := by decide +kernel
theorem dM_way_0 : decode cM_way 0 = .ok (.aload_n 0, 1) := by decide +kernel
theorem dM_way_1 : decode cM_way 1 = .ok (.getfield 16, 3) := by decide +kernel
theorem dM_way_4 : decode cM_way 4 = .ok (.sipush 384, 3) := by decide +kernel
theorem dM_way_7 : decode cM_way 7 = .ok (.iload_n 1, 1) := by decide +kernel
theorem dM_way_8 : decode cM_way 8 = .ok (.imul, 1) := by decide +kernel
theorem dM_way_9 : decode cM_way 9 = .ok (.bipush 6, 2) := by decide +kernel
theorem dM_way_11 : decode cM_way 11 = .ok (.iload_n 2, 1) := by decide +kernel
theorem dM_way_12 : decode cM_way 12 = .ok (.imul, 1) := by decide +kernel
theorem dM_way_13 : decode cM_way 13 = .ok (.iadd, 1) := by decide +kernel
theorem dM_way_14 : decode cM_way 14 = .ok (.iload_n 3, 1) := by decide +kernel
theorem dM_way_15 : decode cM_way 15 = .ok (.iadd, 1) := by decide +kernel
theorem dM_way_16 : decode cM_way 16 = .ok (.iaload, 1) := by decide +kernel
theorem dM_way_17 : decode cM_way 17 = .ok (.ireturn, 1) := by decide +kernel
theorem dM_letter_0 : decode cM_letter 0 = .ok (.aload_n 0, 1) := by decide +kernel
theorem dM_letter_1 : decode cM_letter 1 = .ok (.iload_n 1, 1) := by decide +kernel
theorem dM_letter_2 : decode cM_letter 2 = .ok (.invokevirtual 62, 3) := by decide +kernel
theorem dM_letter_5 : decode cM_letter 5 = .ok (.ifCond .ne 5, 3) := by decide +kernel
theorem dM_letter_8 : decode cM_letter 8 = .ok (.iconst (-1), 1) := by decide +kernel
theorem dM_letter_9 : decode cM_letter 9 = .ok (.ireturn, 1) := by decide +kernel
theorem dM_letter_10 : decode cM_letter 10 = .ok (.aload_n 0, 1) := by decide +kernel
theorem dM_letter_11 : decode cM_letter 11 = .ok (.getfield 66, 3) := by decide +kernel
theorem dM_letter_14 : decode cM_letter 14 = .ok (.ifCond .le 34, 3) := by decide +kernel
theorem dM_letter_17 : decode cM_letter 17 = .ok (.aload_n 0, 1) := by decide +kernel
theorem dM_letter_18 : decode cM_letter 18 = .ok (.getfield 7, 3) := by decide +kernel
theorem dM_letter_21 : decode cM_letter 21 = .ok (.aload_n 0, 1) := by decide +kernel
theorem dM_letter_22 : decode cM_letter 22 = .ok (.getfield 66, 3) := by decide +kernel
theorem dM_letter_25 : decode cM_letter 25 = .ok (.iconst 1, 1) := by decide +kernel
theorem dM_letter_26 : decode cM_letter 26 = .ok (.isub, 1) := by decide +kernel
theorem dM_letter_27 : decode cM_letter 27 = .ok (.iaload, 1) := by decide +kernel
theorem dM_letter_28 : decode cM_letter 28 = .ok (.iload_n 1, 1) := by decide +kernel
theorem dM_letter_29 : decode cM_letter 29 = .ok (.ineg, 1) := by decide +kernel
theorem dM_letter_30 : decode cM_letter 30 = .ok (.if_icmp .ne 18, 3) := by decide +kernel
theorem dM_letter_33 : decode cM_letter 33 = .ok (.aload_n 0, 1) := by decide +kernel
theorem dM_letter_34 : decode cM_letter 34 = .ok (.dup, 1) := by decide +kernel
theorem dM_letter_35 : decode cM_letter 35 = .ok (.getfield 66, 3) := by decide +kernel
theorem dM_letter_38 : decode cM_letter 38 = .ok (.iconst 1, 1) := by decide +kernel
theorem dM_letter_39 : decode cM_letter 39 = .ok (.isub, 1) := by decide +kernel
theorem dM_letter_40 : decode cM_letter 40 = .ok (.putfield 66, 3) := by decide +kernel
theorem dM_letter_43 : decode cM_letter 43 = .ok (.aload_n 0, 1) := by decide +kernel
theorem dM_letter_44 : decode cM_letter 44 = .ok (.getfield 66, 3) := by decide +kernel
theorem dM_letter_47 : decode cM_letter 47 = .ok (.ireturn, 1) := by decide +kernel
theorem dM_letter_48 : decode cM_letter 48 = .ok (.aload_n 0, 1) := by decide +kernel
theorem dM_letter_49 : decode cM_letter 49 = .ok (.getfield 66, 3) := by decide +kernel
theorem dM_letter_52 : decode cM_letter 52 = .ok (.bipush 24, 2) := by decide +kernel
theorem dM_letter_54 : decode cM_letter 54 = .ok (.if_icmp .ne 6, 3) := by decide +kernel
theorem dM_letter_57 : decode cM_letter 57 = .ok (.bipush (-2), 2) := by decide +kernel
theorem dM_letter_59 : decode cM_letter 59 = .ok (.ireturn, 1) := by decide +kernel
theorem dM_letter_60 : decode cM_letter 60 = .ok (.aload_n 0, 1) := by decide +kernel
theorem dM_letter_61 : decode cM_letter 61 = .ok (.getfield 7, 3) := by decide +kernel
theorem dM_letter_64 : decode cM_letter 64 = .ok (.aload_n 0, 1) := by decide +kernel
theorem dM_letter_65 : decode cM_letter 65 = .ok (.getfield 66, 3) := by decide +kernel
theorem dM_letter_68 : decode cM_letter 68 = .ok (.iload_n 1, 1) := by decide +kernel
theorem dM_letter_69 : decode cM_letter 69 = .ok (.iastore, 1) := by decide +kernel
theorem dM_letter_70 : decode cM_letter 70 = .ok (.aload_n 0, 1) := by decide +kernel
theorem dM_letter_71 : decode cM_letter 71 = .ok (.dup, 1) := by decide +kernel
theorem dM_letter_72 : decode cM_letter 72 = .ok (.getfield 66, 3) := by decide +kernel
theorem dM_letter_75 : decode cM_letter 75 = .ok (.iconst 1, 1) := by decide +kernel
theorem dM_letter_76 : decode cM_letter 76 = .ok (.iadd, 1) := by decide +kernel
theorem dM_letter_77 : decode cM_letter 77 = .ok (.putfield 66, 3) := by decide +kernel
theorem dM_letter_80 : decode cM_letter 80 = .ok (.aload_n 0, 1) := by decide +kernel
theorem dM_letter_81 : decode cM_letter 81 = .ok (.getfield 66, 3) := by decide +kernel
theorem dM_letter_84 : decode cM_letter 84 = .ok (.ireturn, 1) := by decide +kernel
theorem dM_clear_0 : decode cM_clear 0 = .ok (.aload_n 0, 1) := by decide +kernel
theorem dM_clear_1 : decode cM_clear 1 = .ok (.getfield 66, 3) := by decide +kernel
theorem dM_clear_4 : decode cM_clear 4 = .ok (.istore_n 1, 1) := by decide +kernel
theorem dM_clear_5 : decode cM_clear 5 = .ok (.aload_n 0, 1) := by decide +kernel
theorem dM_clear_6 : decode cM_clear 6 = .ok (.iconst 0, 1) := by decide +kernel
theorem dM_clear_7 : decode cM_clear 7 = .ok (.putfield 66, 3) := by decide +kernel
theorem dM_clear_10 : decode cM_clear 10 = .ok (.iload_n 1, 1) := by decide +kernel
theorem dM_clear_11 : decode cM_clear 11 = .ok (.ireturn, 1) := by decide +kernel
theorem dM_invert_0 : decode cM_invert 0 = .ok (.iconst 0, 1) := by decide +kernel
theorem dM_invert_1 : decode cM_invert 1 = .ok (.istore_n 1, 1) := by decide +kernel
theorem dM_invert_2 : decode cM_invert 2 = .ok (.iload_n 1, 1) := by decide +kernel
theorem dM_invert_3 : decode cM_invert 3 = .ok (.aload_n 0, 1) := by decide +kernel
theorem dM_invert_4 : decode cM_invert 4 = .ok (.getfield 66, 3) := by decide +kernel
theorem dM_invert_7 : decode cM_invert 7 = .ok (.if_icmp .ge 29, 3) := by decide +kernel
theorem dM_invert_10 : decode cM_invert 10 = .ok (.aload_n 0, 1) := by decide +kernel
theorem dM_invert_11 : decode cM_invert 11 = .ok (.getfield 55, 3) := by decide +kernel
theorem dM_invert_14 : decode cM_invert 14 = .ok (.iload_n 1, 1) := by decide +kernel
theorem dM_invert_15 : decode cM_invert 15 = .ok (.aload_n 0, 1) := by decide +kernel
theorem dM_invert_16 : decode cM_invert 16 = .ok (.getfield 7, 3) := by decide +kernel
theorem dM_invert_19 : decode cM_invert 19 = .ok (.aload_n 0, 1) := by decide +kernel
theorem dM_invert_20 : decode cM_invert 20 = .ok (.getfield 66, 3) := by decide +kernel
theorem dM_invert_23 : decode cM_invert 23 = .ok (.iconst 1, 1) := by decide +kernel
theorem dM_invert_24 : decode cM_invert 24 = .ok (.isub, 1) := by decide +kernel
theorem dM_invert_25 : decode cM_invert 25 = .ok (.iload_n 1, 1) := by decide +kernel
theorem dM_invert_26 : decode cM_invert 26 = .ok (.isub, 1) := by decide +kernel
theorem dM_invert_27 : decode cM_invert 27 = .ok (.iaload, 1) := by decide +kernel
theorem dM_invert_28 : decode cM_invert 28 = .ok (.ineg, 1) := by decide +kernel
theorem dM_invert_29 : decode cM_invert 29 = .ok (.iastore, 1) := by decide +kernel
theorem dM_invert_30 : decode cM_invert 30 = .ok (.iinc 1 1, 3) := by decide +kernel
theorem dM_invert_33 : decode cM_invert 33 = .ok (.goto (-31), 3) := by decide +kernel
theorem dM_invert_36 : decode cM_invert 36 = .ok (.iconst 0, 1) := by decide +kernel
theorem dM_invert_37 : decode cM_invert 37 = .ok (.istore_n 1, 1) := by decide +kernel
theorem dM_invert_38 : decode cM_invert 38 = .ok (.iload_n 1, 1) := by decide +kernel
theorem dM_invert_39 : decode cM_invert 39 = .ok (.aload_n 0, 1) := by decide +kernel
theorem dM_invert_40 : decode cM_invert 40 = .ok (.getfield 66, 3) := by decide +kernel
theorem dM_invert_43 : decode cM_invert 43 = .ok (.if_icmp .ge 21, 3) := by decide +kernel
theorem dM_invert_46 : decode cM_invert 46 = .ok (.aload_n 0, 1) := by decide +kernel
theorem dM_invert_47 : decode cM_invert 47 = .ok (.getfield 7, 3) := by decide +kernel
theorem dM_invert_50 : decode cM_invert 50 = .ok (.iload_n 1, 1) := by decide +kernel
theorem dM_invert_51 : decode cM_invert 51 = .ok (.aload_n 0, 1) := by decide +kernel
theorem dM_invert_52 : decode cM_invert 52 = .ok (.getfield 55, 3) := by decide +kernel
theorem dM_invert_55 : decode cM_invert 55 = .ok (.iload_n 1, 1) := by decide +kernel
theorem dM_invert_56 : decode cM_invert 56 = .ok (.iaload, 1) := by decide +kernel
theorem dM_invert_57 : decode cM_invert 57 = .ok (.iastore, 1) := by decide +kernel
theorem dM_invert_58 : decode cM_invert 58 = .ok (.iinc 1 1, 3) := by decide +kernel
theorem dM_invert_61 : decode cM_invert 61 = .ok (.goto (-23), 3) := by decide +kernel
theorem dM_invert_64 : decode cM_invert 64 = .ok (.aload_n 0, 1) := by decide +kernel
theorem dM_invert_65 : decode cM_invert 65 = .ok (.getfield 66, 3) := by decide +kernel
theorem dM_invert_68 : decode cM_invert 68 = .ok (.ireturn, 1) := by decide +kernel
theorem dM_at_0 : decode cM_at 0 = .ok (.iload_n 1, 1) := by decide +kernel
theorem dM_at_1 : decode cM_at 1 = .ok (.ifCond .lt 20, 3) := by decide +kernel
theorem dM_at_4 : decode cM_at 4 = .ok (.iload_n 1, 1) := by decide +kernel
theorem dM_at_5 : decode cM_at 5 = .ok (.aload_n 0, 1) := by decide +kernel
theorem dM_at_6 : decode cM_at 6 = .ok (.getfield 66, 3) := by decide +kernel
theorem dM_at_9 : decode cM_at 9 = .ok (.if_icmp .ge 12, 3) := by decide +kernel
theorem dM_at_12 : decode cM_at 12 = .ok (.aload_n 0, 1) := by decide +kernel
theorem dM_at_13 : decode cM_at 13 = .ok (.getfield 7, 3) := by decide +kernel
theorem dM_at_16 : decode cM_at 16 = .ok (.iload_n 1, 1) := by decide +kernel
theorem dM_at_17 : decode cM_at 17 = .ok (.iaload, 1) := by decide +kernel
theorem dM_at_18 : decode cM_at 18 = .ok (.goto 4, 3) := by decide +kernel
theorem dM_at_21 : decode cM_at 21 = .ok (.iconst 0, 1) := by decide +kernel
theorem dM_at_22 : decode cM_at 22 = .ok (.ireturn, 1) := by decide +kernel
theorem dM_begin_0 : decode cM_begin 0 = .ok (.aload_n 0, 1) := by decide +kernel
theorem dM_begin_1 : decode cM_begin 1 = .ok (.iload_n 1, 1) := by decide +kernel
theorem dM_begin_2 : decode cM_begin 2 = .ok (.putfield 69, 3) := by decide +kernel
theorem dM_begin_5 : decode cM_begin 5 = .ok (.aload_n 0, 1) := by decide +kernel
theorem dM_begin_6 : decode cM_begin 6 = .ok (.iconst 0, 1) := by decide +kernel
theorem dM_begin_7 : decode cM_begin 7 = .ok (.putfield 72, 3) := by decide +kernel
theorem dM_begin_10 : decode cM_begin 10 = .ok (.aload_n 0, 1) := by decide +kernel
theorem dM_begin_11 : decode cM_begin 11 = .ok (.iconst 0, 1) := by decide +kernel
theorem dM_begin_12 : decode cM_begin 12 = .ok (.putfield 75, 3) := by decide +kernel
theorem dM_begin_15 : decode cM_begin 15 = .ok (.return_, 1) := by decide +kernel
theorem dM_addEdge_0 : decode cM_addEdge 0 = .ok (.aload_n 0, 1) := by decide +kernel
theorem dM_addEdge_1 : decode cM_addEdge 1 = .ok (.getfield 28, 3) := by decide +kernel
theorem dM_addEdge_4 : decode cM_addEdge 4 = .ok (.aload_n 0, 1) := by decide +kernel
theorem dM_addEdge_5 : decode cM_addEdge 5 = .ok (.getfield 75, 3) := by decide +kernel
theorem dM_addEdge_8 : decode cM_addEdge 8 = .ok (.iload_n 2, 1) := by decide +kernel
theorem dM_addEdge_9 : decode cM_addEdge 9 = .ok (.ifCond .le 7, 3) := by decide +kernel
theorem dM_addEdge_12 : decode cM_addEdge 12 = .ok (.iload_n 1, 1) := by decide +kernel
theorem dM_addEdge_13 : decode cM_addEdge 13 = .ok (.goto 4, 3) := by decide +kernel
theorem dM_addEdge_16 : decode cM_addEdge 16 = .ok (.iload_n 3, 1) := by decide +kernel
theorem dM_addEdge_17 : decode cM_addEdge 17 = .ok (.iastore, 1) := by decide +kernel
theorem dM_addEdge_18 : decode cM_addEdge 18 = .ok (.aload_n 0, 1) := by decide +kernel
theorem dM_addEdge_19 : decode cM_addEdge 19 = .ok (.getfield 31, 3) := by decide +kernel
theorem dM_addEdge_22 : decode cM_addEdge 22 = .ok (.aload_n 0, 1) := by decide +kernel
theorem dM_addEdge_23 : decode cM_addEdge 23 = .ok (.getfield 75, 3) := by decide +kernel
theorem dM_addEdge_26 : decode cM_addEdge 26 = .ok (.iload_n 2, 1) := by decide +kernel
theorem dM_addEdge_27 : decode cM_addEdge 27 = .ok (.ifCond .le 7, 3) := by decide +kernel
theorem dM_addEdge_30 : decode cM_addEdge 30 = .ok (.iload_n 2, 1) := by decide +kernel
theorem dM_addEdge_31 : decode cM_addEdge 31 = .ok (.goto 5, 3) := by decide +kernel
theorem dM_addEdge_34 : decode cM_addEdge 34 = .ok (.iload_n 2, 1) := by decide +kernel
theorem dM_addEdge_35 : decode cM_addEdge 35 = .ok (.ineg, 1) := by decide +kernel
theorem dM_addEdge_36 : decode cM_addEdge 36 = .ok (.iastore, 1) := by decide +kernel
theorem dM_addEdge_37 : decode cM_addEdge 37 = .ok (.aload_n 0, 1) := by decide +kernel
theorem dM_addEdge_38 : decode cM_addEdge 38 = .ok (.getfield 34, 3) := by decide +kernel
theorem dM_addEdge_41 : decode cM_addEdge 41 = .ok (.aload_n 0, 1) := by decide +kernel
theorem dM_addEdge_42 : decode cM_addEdge 42 = .ok (.getfield 75, 3) := by decide +kernel
theorem dM_addEdge_45 : decode cM_addEdge 45 = .ok (.iload_n 2, 1) := by decide +kernel
theorem dM_addEdge_46 : decode cM_addEdge 46 = .ok (.ifCond .le 7, 3) := by decide +kernel
theorem dM_addEdge_49 : decode cM_addEdge 49 = .ok (.iload_n 3, 1) := by decide +kernel
theorem dM_addEdge_50 : decode cM_addEdge 50 = .ok (.goto 4, 3) := by decide +kernel
theorem dM_addEdge_53 : decode cM_addEdge 53 = .ok (.iload_n 1, 1) := by decide +kernel
theorem dM_addEdge_54 : decode cM_addEdge 54 = .ok (.iastore, 1) := by decide +kernel
theorem dM_addEdge_55 : decode cM_addEdge 55 = .ok (.aload_n 0, 1) := by decide +kernel
theorem dM_addEdge_56 : decode cM_addEdge 56 = .ok (.dup, 1) := by decide +kernel
theorem dM_addEdge_57 : decode cM_addEdge 57 = .ok (.getfield 75, 3) := by decide +kernel
theorem dM_addEdge_60 : decode cM_addEdge 60 = .ok (.iconst 1, 1) := by decide +kernel
theorem dM_addEdge_61 : decode cM_addEdge 61 = .ok (.iadd, 1) := by decide +kernel
theorem dM_addEdge_62 : decode cM_addEdge 62 = .ok (.putfield 75, 3) := by decide +kernel
theorem dM_addEdge_65 : decode cM_addEdge 65 = .ok (.return_, 1) := by decide +kernel
theorem dM_addCopy_0 : decode cM_addCopy 0 = .ok (.iconst 0, 1) := by decide +kernel
theorem dM_addCopy_1 : decode cM_addCopy 1 = .ok (.istore_n 3, 1) := by decide +kernel
theorem dM_addCopy_2 : decode cM_addCopy 2 = .ok (.iload_n 3, 1) := by decide +kernel
theorem dM_addCopy_3 : decode cM_addCopy 3 = .ok (.aload_n 0, 1) := by decide +kernel
theorem dM_addCopy_4 : decode cM_addCopy 4 = .ok (.getfield 13, 3) := by decide +kernel
theorem dM_addCopy_7 : decode cM_addCopy 7 = .ok (.iload_n 1, 1) := by decide +kernel
theorem dM_addCopy_8 : decode cM_addCopy 8 = .ok (.iaload, 1) := by decide +kernel
theorem dM_addCopy_9 : decode cM_addCopy 9 = .ok (.if_icmp .ge 75, 3) := by decide +kernel
theorem dM_addCopy_12 : decode cM_addCopy 12 = .ok (.iconst 1, 1) := by decide +kernel
theorem dM_addCopy_13 : decode cM_addCopy 13 = .ok (.istore 4, 2) := by decide +kernel
theorem dM_addCopy_15 : decode cM_addCopy 15 = .ok (.iload 4, 2) := by decide +kernel
theorem dM_addCopy_17 : decode cM_addCopy 17 = .ok (.aload_n 0, 1) := by decide +kernel
theorem dM_addCopy_18 : decode cM_addCopy 18 = .ok (.getfield 58, 3) := by decide +kernel
theorem dM_addCopy_21 : decode cM_addCopy 21 = .ok (.if_icmp .gt 57, 3) := by decide +kernel
theorem dM_addCopy_24 : decode cM_addCopy 24 = .ok (.aload_n 0, 1) := by decide +kernel
theorem dM_addCopy_25 : decode cM_addCopy 25 = .ok (.iload_n 1, 1) := by decide +kernel
theorem dM_addCopy_26 : decode cM_addCopy 26 = .ok (.iload_n 3, 1) := by decide +kernel
theorem dM_addCopy_27 : decode cM_addCopy 27 = .ok (.iload 4, 2) := by decide +kernel
theorem dM_addCopy_29 : decode cM_addCopy 29 = .ok (.invokestatic 78, 3) := by decide +kernel
theorem dM_addCopy_32 : decode cM_addCopy 32 = .ok (.invokevirtual 82, 3) := by decide +kernel
theorem dM_addCopy_35 : decode cM_addCopy 35 = .ok (.istore 5, 2) := by decide +kernel
theorem dM_addCopy_37 : decode cM_addCopy 37 = .ok (.iload 5, 2) := by decide +kernel
theorem dM_addCopy_39 : decode cM_addCopy 39 = .ok (.ifCond .lt 33, 3) := by decide +kernel
theorem dM_addCopy_42 : decode cM_addCopy 42 = .ok (.aload_n 0, 1) := by decide +kernel
theorem dM_addCopy_43 : decode cM_addCopy 43 = .ok (.iload_n 3, 1) := by decide +kernel
theorem dM_addCopy_44 : decode cM_addCopy 44 = .ok (.ifCond .ne 7, 3) := by decide +kernel
theorem dM_addCopy_47 : decode cM_addCopy 47 = .ok (.iconst 0, 1) := by decide +kernel
theorem dM_addCopy_48 : decode cM_addCopy 48 = .ok (.goto 6, 3) := by decide +kernel
theorem dM_addCopy_51 : decode cM_addCopy 51 = .ok (.iload_n 3, 1) := by decide +kernel
theorem dM_addCopy_52 : decode cM_addCopy 52 = .ok (.iload_n 2, 1) := by decide +kernel
theorem dM_addCopy_53 : decode cM_addCopy 53 = .ok (.iadd, 1) := by decide +kernel
theorem dM_addCopy_54 : decode cM_addCopy 54 = .ok (.iload 4, 2) := by decide +kernel
theorem dM_addCopy_56 : decode cM_addCopy 56 = .ok (.iload 5, 2) := by decide +kernel
theorem dM_addCopy_58 : decode cM_addCopy 58 = .ok (.ifCond .ne 7, 3) := by decide +kernel
theorem dM_addCopy_61 : decode cM_addCopy 61 = .ok (.iconst 0, 1) := by decide +kernel
theorem dM_addCopy_62 : decode cM_addCopy 62 = .ok (.goto 7, 3) := by decide +kernel
theorem dM_addCopy_65 : decode cM_addCopy 65 = .ok (.iload 5, 2) := by decide +kernel
theorem dM_addCopy_67 : decode cM_addCopy 67 = .ok (.iload_n 2, 1) := by decide +kernel
theorem dM_addCopy_68 : decode cM_addCopy 68 = .ok (.iadd, 1) := by decide +kernel
theorem dM_addCopy_69 : decode cM_addCopy 69 = .ok (.invokevirtual 86, 3) := by decide +kernel
theorem dM_addCopy_72 : decode cM_addCopy 72 = .ok (.iinc 4 1, 3) := by decide +kernel
theorem dM_addCopy_75 : decode cM_addCopy 75 = .ok (.goto (-60), 3) := by decide +kernel
theorem dM_addCopy_78 : decode cM_addCopy 78 = .ok (.iinc 3 1, 3) := by decide +kernel
theorem dM_addCopy_81 : decode cM_addCopy 81 = .ok (.goto (-79), 3) := by decide +kernel
theorem dM_addCopy_84 : decode cM_addCopy 84 = .ok (.return_, 1) := by decide +kernel
theorem dM_unite_0 : decode cM_unite 0 = .ok (.iload_n 1, 1) := by decide +kernel
theorem dM_unite_1 : decode cM_unite 1 = .ok (.iload_n 2, 1) := by decide +kernel
theorem dM_unite_2 : decode cM_unite 2 = .ok (.if_icmp .ge 7, 3) := by decide +kernel
theorem dM_unite_5 : decode cM_unite 5 = .ok (.iload_n 1, 1) := by decide +kernel
theorem dM_unite_6 : decode cM_unite 6 = .ok (.goto 4, 3) := by decide +kernel
theorem dM_unite_9 : decode cM_unite 9 = .ok (.iload_n 2, 1) := by decide +kernel
theorem dM_unite_10 : decode cM_unite 10 = .ok (.istore_n 3, 1) := by decide +kernel
theorem dM_unite_11 : decode cM_unite 11 = .ok (.iload_n 1, 1) := by decide +kernel
theorem dM_unite_12 : decode cM_unite 12 = .ok (.iload_n 2, 1) := by decide +kernel
theorem dM_unite_13 : decode cM_unite 13 = .ok (.if_icmp .ge 7, 3) := by decide +kernel
theorem dM_unite_16 : decode cM_unite 16 = .ok (.iload_n 2, 1) := by decide +kernel
theorem dM_unite_17 : decode cM_unite 17 = .ok (.goto 4, 3) := by decide +kernel
theorem dM_unite_20 : decode cM_unite 20 = .ok (.iload_n 1, 1) := by decide +kernel
theorem dM_unite_21 : decode cM_unite 21 = .ok (.istore 4, 2) := by decide +kernel
theorem dM_unite_23 : decode cM_unite 23 = .ok (.iconst 0, 1) := by decide +kernel
theorem dM_unite_24 : decode cM_unite 24 = .ok (.istore 5, 2) := by decide +kernel
theorem dM_unite_26 : decode cM_unite 26 = .ok (.iload 5, 2) := by decide +kernel
theorem dM_unite_28 : decode cM_unite 28 = .ok (.aload_n 0, 1) := by decide +kernel
theorem dM_unite_29 : decode cM_unite 29 = .ok (.getfield 69, 3) := by decide +kernel
theorem dM_unite_32 : decode cM_unite 32 = .ok (.if_icmp .ge 39, 3) := by decide +kernel
theorem dM_unite_35 : decode cM_unite 35 = .ok (.aload_n 0, 1) := by decide +kernel
theorem dM_unite_36 : decode cM_unite 36 = .ok (.getfield 37, 3) := by decide +kernel
theorem dM_unite_39 : decode cM_unite 39 = .ok (.iload 5, 2) := by decide +kernel
theorem dM_unite_41 : decode cM_unite 41 = .ok (.aload_n 0, 1) := by decide +kernel
theorem dM_unite_42 : decode cM_unite 42 = .ok (.getfield 37, 3) := by decide +kernel
theorem dM_unite_45 : decode cM_unite 45 = .ok (.iload 5, 2) := by decide +kernel
theorem dM_unite_47 : decode cM_unite 47 = .ok (.iaload, 1) := by decide +kernel
theorem dM_unite_48 : decode cM_unite 48 = .ok (.iload 4, 2) := by decide +kernel
theorem dM_unite_50 : decode cM_unite 50 = .ok (.if_icmp .ne 7, 3) := by decide +kernel
theorem dM_unite_53 : decode cM_unite 53 = .ok (.iload_n 3, 1) := by decide +kernel
theorem dM_unite_54 : decode cM_unite 54 = .ok (.goto 10, 3) := by decide +kernel
theorem dM_unite_57 : decode cM_unite 57 = .ok (.aload_n 0, 1) := by decide +kernel
theorem dM_unite_58 : decode cM_unite 58 = .ok (.getfield 37, 3) := by decide +kernel
theorem dM_unite_61 : decode cM_unite 61 = .ok (.iload 5, 2) := by decide +kernel
theorem dM_unite_63 : decode cM_unite 63 = .ok (.iaload, 1) := by decide +kernel
theorem dM_unite_64 : decode cM_unite 64 = .ok (.iastore, 1) := by decide +kernel
theorem dM_unite_65 : decode cM_unite 65 = .ok (.iinc 5 1, 3) := by decide +kernel
theorem dM_unite_68 : decode cM_unite 68 = .ok (.goto (-42), 3) := by decide +kernel
theorem dM_unite_71 : decode cM_unite 71 = .ok (.return_, 1) := by decide +kernel
theorem dM_foldOnce_0 : decode cM_foldOnce 0 = .ok (.iconst 0, 1) := by decide +kernel
theorem dM_foldOnce_1 : decode cM_foldOnce 1 = .ok (.istore_n 1, 1) := by decide +kernel
theorem dM_foldOnce_2 : decode cM_foldOnce 2 = .ok (.iload_n 1, 1) := by decide +kernel
theorem dM_foldOnce_3 : decode cM_foldOnce 3 = .ok (.sipush 384, 3) := by decide +kernel
theorem dM_foldOnce_6 : decode cM_foldOnce 6 = .ok (.if_icmp .ge 16, 3) := by decide +kernel
theorem dM_foldOnce_9 : decode cM_foldOnce 9 = .ok (.aload_n 0, 1) := by decide +kernel
theorem dM_foldOnce_10 : decode cM_foldOnce 10 = .ok (.getfield 40, 3) := by decide +kernel
theorem dM_foldOnce_13 : decode cM_foldOnce 13 = .ok (.iload_n 1, 1) := by decide +kernel
theorem dM_foldOnce_14 : decode cM_foldOnce 14 = .ok (.iconst (-1), 1) := by decide +kernel
theorem dM_foldOnce_15 : decode cM_foldOnce 15 = .ok (.iastore, 1) := by decide +kernel
theorem dM_foldOnce_16 : decode cM_foldOnce 16 = .ok (.iinc 1 1, 3) := by decide +kernel
theorem dM_foldOnce_19 : decode cM_foldOnce 19 = .ok (.goto (-17), 3) := by decide +kernel
theorem dM_foldOnce_22 : decode cM_foldOnce 22 = .ok (.iconst 0, 1) := by decide +kernel
theorem dM_foldOnce_23 : decode cM_foldOnce 23 = .ok (.istore_n 1, 1) := by decide +kernel
theorem dM_foldOnce_24 : decode cM_foldOnce 24 = .ok (.iload_n 1, 1) := by decide +kernel
theorem dM_foldOnce_25 : decode cM_foldOnce 25 = .ok (.aload_n 0, 1) := by decide +kernel
theorem dM_foldOnce_26 : decode cM_foldOnce 26 = .ok (.getfield 75, 3) := by decide +kernel
theorem dM_foldOnce_29 : decode cM_foldOnce 29 = .ok (.if_icmp .ge 142, 3) := by decide +kernel
theorem dM_foldOnce_32 : decode cM_foldOnce 32 = .ok (.aload_n 0, 1) := by decide +kernel
theorem dM_foldOnce_33 : decode cM_foldOnce 33 = .ok (.getfield 37, 3) := by decide +kernel
theorem dM_foldOnce_36 : decode cM_foldOnce 36 = .ok (.aload_n 0, 1) := by decide +kernel
theorem dM_foldOnce_37 : decode cM_foldOnce 37 = .ok (.getfield 28, 3) := by decide +kernel
theorem dM_foldOnce_40 : decode cM_foldOnce 40 = .ok (.iload_n 1, 1) := by decide +kernel
theorem dM_foldOnce_41 : decode cM_foldOnce 41 = .ok (.iaload, 1) := by decide +kernel
theorem dM_foldOnce_42 : decode cM_foldOnce 42 = .ok (.iaload, 1) := by decide +kernel
theorem dM_foldOnce_43 : decode cM_foldOnce 43 = .ok (.istore_n 2, 1) := by decide +kernel
theorem dM_foldOnce_44 : decode cM_foldOnce 44 = .ok (.aload_n 0, 1) := by decide +kernel
theorem dM_foldOnce_45 : decode cM_foldOnce 45 = .ok (.getfield 37, 3) := by decide +kernel
theorem dM_foldOnce_48 : decode cM_foldOnce 48 = .ok (.aload_n 0, 1) := by decide +kernel
theorem dM_foldOnce_49 : decode cM_foldOnce 49 = .ok (.getfield 34, 3) := by decide +kernel
theorem dM_foldOnce_52 : decode cM_foldOnce 52 = .ok (.iload_n 1, 1) := by decide +kernel
theorem dM_foldOnce_53 : decode cM_foldOnce 53 = .ok (.iaload, 1) := by decide +kernel
theorem dM_foldOnce_54 : decode cM_foldOnce 54 = .ok (.iaload, 1) := by decide +kernel
theorem dM_foldOnce_55 : decode cM_foldOnce 55 = .ok (.istore_n 3, 1) := by decide +kernel
theorem dM_foldOnce_56 : decode cM_foldOnce 56 = .ok (.aload_n 0, 1) := by decide +kernel
theorem dM_foldOnce_57 : decode cM_foldOnce 57 = .ok (.getfield 31, 3) := by decide +kernel
theorem dM_foldOnce_60 : decode cM_foldOnce 60 = .ok (.iload_n 1, 1) := by decide +kernel
theorem dM_foldOnce_61 : decode cM_foldOnce 61 = .ok (.iaload, 1) := by decide +kernel
theorem dM_foldOnce_62 : decode cM_foldOnce 62 = .ok (.invokestatic 78, 3) := by decide +kernel
theorem dM_foldOnce_65 : decode cM_foldOnce 65 = .ok (.istore 4, 2) := by decide +kernel
theorem dM_foldOnce_67 : decode cM_foldOnce 67 = .ok (.aload_n 0, 1) := by decide +kernel
theorem dM_foldOnce_68 : decode cM_foldOnce 68 = .ok (.getfield 40, 3) := by decide +kernel
theorem dM_foldOnce_71 : decode cM_foldOnce 71 = .ok (.bipush 6, 2) := by decide +kernel
theorem dM_foldOnce_73 : decode cM_foldOnce 73 = .ok (.iload_n 2, 1) := by decide +kernel
theorem dM_foldOnce_74 : decode cM_foldOnce 74 = .ok (.imul, 1) := by decide +kernel
theorem dM_foldOnce_75 : decode cM_foldOnce 75 = .ok (.iload 4, 2) := by decide +kernel
theorem dM_foldOnce_77 : decode cM_foldOnce 77 = .ok (.iadd, 1) := by decide +kernel
theorem dM_foldOnce_78 : decode cM_foldOnce 78 = .ok (.iaload, 1) := by decide +kernel
theorem dM_foldOnce_79 : decode cM_foldOnce 79 = .ok (.istore 5, 2) := by decide +kernel
theorem dM_foldOnce_81 : decode cM_foldOnce 81 = .ok (.aload_n 0, 1) := by decide +kernel
theorem dM_foldOnce_82 : decode cM_foldOnce 82 = .ok (.getfield 40, 3) := by decide +kernel
theorem dM_foldOnce_85 : decode cM_foldOnce 85 = .ok (.bipush 6, 2) := by decide +kernel
theorem dM_foldOnce_87 : decode cM_foldOnce 87 = .ok (.iload_n 3, 1) := by decide +kernel
theorem dM_foldOnce_88 : decode cM_foldOnce 88 = .ok (.imul, 1) := by decide +kernel
theorem dM_foldOnce_89 : decode cM_foldOnce 89 = .ok (.iload 4, 2) := by decide +kernel
theorem dM_foldOnce_91 : decode cM_foldOnce 91 = .ok (.iadd, 1) := by decide +kernel
theorem dM_foldOnce_92 : decode cM_foldOnce 92 = .ok (.iconst 1, 1) := by decide +kernel
theorem dM_foldOnce_93 : decode cM_foldOnce 93 = .ok (.iadd, 1) := by decide +kernel
theorem dM_foldOnce_94 : decode cM_foldOnce 94 = .ok (.iaload, 1) := by decide +kernel
theorem dM_foldOnce_95 : decode cM_foldOnce 95 = .ok (.istore 6, 2) := by decide +kernel
theorem dM_foldOnce_97 : decode cM_foldOnce 97 = .ok (.iload 5, 2) := by decide +kernel
theorem dM_foldOnce_99 : decode cM_foldOnce 99 = .ok (.ifCond .lt 18, 3) := by decide +kernel
theorem dM_foldOnce_102 : decode cM_foldOnce 102 = .ok (.iload 5, 2) := by decide +kernel
theorem dM_foldOnce_104 : decode cM_foldOnce 104 = .ok (.iload_n 3, 1) := by decide +kernel
theorem dM_foldOnce_105 : decode cM_foldOnce 105 = .ok (.if_icmp .eq 12, 3) := by decide +kernel
theorem dM_foldOnce_108 : decode cM_foldOnce 108 = .ok (.aload_n 0, 1) := by decide +kernel
theorem dM_foldOnce_109 : decode cM_foldOnce 109 = .ok (.iload 5, 2) := by decide +kernel
theorem dM_foldOnce_111 : decode cM_foldOnce 111 = .ok (.iload_n 3, 1) := by decide +kernel
theorem dM_foldOnce_112 : decode cM_foldOnce 112 = .ok (.invokevirtual 90, 3) := by decide +kernel
theorem dM_foldOnce_115 : decode cM_foldOnce 115 = .ok (.iconst 1, 1) := by decide +kernel
theorem dM_foldOnce_116 : decode cM_foldOnce 116 = .ok (.ireturn, 1) := by decide +kernel
theorem dM_foldOnce_117 : decode cM_foldOnce 117 = .ok (.iload 6, 2) := by decide +kernel
theorem dM_foldOnce_119 : decode cM_foldOnce 119 = .ok (.ifCond .lt 18, 3) := by decide +kernel
theorem dM_foldOnce_122 : decode cM_foldOnce 122 = .ok (.iload 6, 2) := by decide +kernel
theorem dM_foldOnce_124 : decode cM_foldOnce 124 = .ok (.iload_n 2, 1) := by decide +kernel
theorem dM_foldOnce_125 : decode cM_foldOnce 125 = .ok (.if_icmp .eq 12, 3) := by decide +kernel
theorem dM_foldOnce_128 : decode cM_foldOnce 128 = .ok (.aload_n 0, 1) := by decide +kernel
theorem dM_foldOnce_129 : decode cM_foldOnce 129 = .ok (.iload 6, 2) := by decide +kernel
theorem dM_foldOnce_131 : decode cM_foldOnce 131 = .ok (.iload_n 2, 1) := by decide +kernel
theorem dM_foldOnce_132 : decode cM_foldOnce 132 = .ok (.invokevirtual 90, 3) := by decide +kernel
theorem dM_foldOnce_135 : decode cM_foldOnce 135 = .ok (.iconst 1, 1) := by decide +kernel
theorem dM_foldOnce_136 : decode cM_foldOnce 136 = .ok (.ireturn, 1) := by decide +kernel
theorem dM_foldOnce_137 : decode cM_foldOnce 137 = .ok (.aload_n 0, 1) := by decide +kernel
theorem dM_foldOnce_138 : decode cM_foldOnce 138 = .ok (.getfield 40, 3) := by decide +kernel
theorem dM_foldOnce_141 : decode cM_foldOnce 141 = .ok (.bipush 6, 2) := by decide +kernel
theorem dM_foldOnce_143 : decode cM_foldOnce 143 = .ok (.iload_n 2, 1) := by decide +kernel
theorem dM_foldOnce_144 : decode cM_foldOnce 144 = .ok (.imul, 1) := by decide +kernel
theorem dM_foldOnce_145 : decode cM_foldOnce 145 = .ok (.iload 4, 2) := by decide +kernel
theorem dM_foldOnce_147 : decode cM_foldOnce 147 = .ok (.iadd, 1) := by decide +kernel
theorem dM_foldOnce_148 : decode cM_foldOnce 148 = .ok (.iload_n 3, 1) := by decide +kernel
theorem dM_foldOnce_149 : decode cM_foldOnce 149 = .ok (.iastore, 1) := by decide +kernel
theorem dM_foldOnce_150 : decode cM_foldOnce 150 = .ok (.aload_n 0, 1) := by decide +kernel
theorem dM_foldOnce_151 : decode cM_foldOnce 151 = .ok (.getfield 40, 3) := by decide +kernel
theorem dM_foldOnce_154 : decode cM_foldOnce 154 = .ok (.bipush 6, 2) := by decide +kernel
theorem dM_foldOnce_156 : decode cM_foldOnce 156 = .ok (.iload_n 3, 1) := by decide +kernel
theorem dM_foldOnce_157 : decode cM_foldOnce 157 = .ok (.imul, 1) := by decide +kernel
theorem dM_foldOnce_158 : decode cM_foldOnce 158 = .ok (.iload 4, 2) := by decide +kernel
theorem dM_foldOnce_160 : decode cM_foldOnce 160 = .ok (.iadd, 1) := by decide +kernel
theorem dM_foldOnce_161 : decode cM_foldOnce 161 = .ok (.iconst 1, 1) := by decide +kernel
theorem dM_foldOnce_162 : decode cM_foldOnce 162 = .ok (.iadd, 1) := by decide +kernel
theorem dM_foldOnce_163 : decode cM_foldOnce 163 = .ok (.iload_n 2, 1) := by decide +kernel
theorem dM_foldOnce_164 : decode cM_foldOnce 164 = .ok (.iastore, 1) := by decide +kernel
theorem dM_foldOnce_165 : decode cM_foldOnce 165 = .ok (.iinc 1 1, 3) := by decide +kernel
theorem dM_foldOnce_168 : decode cM_foldOnce 168 = .ok (.goto (-144), 3) := by decide +kernel
theorem dM_foldOnce_171 : decode cM_foldOnce 171 = .ok (.iconst 0, 1) := by decide +kernel
theorem dM_foldOnce_172 : decode cM_foldOnce 172 = .ok (.ireturn, 1) := by decide +kernel
theorem dM_fold_0 : decode cM_fold 0 = .ok (.iconst 0, 1) := by decide +kernel
theorem dM_fold_1 : decode cM_fold 1 = .ok (.istore_n 1, 1) := by decide +kernel
theorem dM_fold_2 : decode cM_fold 2 = .ok (.iload_n 1, 1) := by decide +kernel
theorem dM_fold_3 : decode cM_fold 3 = .ok (.aload_n 0, 1) := by decide +kernel
theorem dM_fold_4 : decode cM_fold 4 = .ok (.getfield 69, 3) := by decide +kernel
theorem dM_fold_7 : decode cM_fold 7 = .ok (.if_icmp .ge 16, 3) := by decide +kernel
theorem dM_fold_10 : decode cM_fold 10 = .ok (.aload_n 0, 1) := by decide +kernel
theorem dM_fold_11 : decode cM_fold 11 = .ok (.getfield 37, 3) := by decide +kernel
theorem dM_fold_14 : decode cM_fold 14 = .ok (.iload_n 1, 1) := by decide +kernel
theorem dM_fold_15 : decode cM_fold 15 = .ok (.iload_n 1, 1) := by decide +kernel
theorem dM_fold_16 : decode cM_fold 16 = .ok (.iastore, 1) := by decide +kernel
theorem dM_fold_17 : decode cM_fold 17 = .ok (.iinc 1 1, 3) := by decide +kernel
theorem dM_fold_20 : decode cM_fold 20 = .ok (.goto (-18), 3) := by decide +kernel
theorem dM_fold_23 : decode cM_fold 23 = .ok (.iconst 1, 1) := by decide +kernel
theorem dM_fold_24 : decode cM_fold 24 = .ok (.istore_n 1, 1) := by decide +kernel
theorem dM_fold_25 : decode cM_fold 25 = .ok (.iload_n 1, 1) := by decide +kernel
theorem dM_fold_26 : decode cM_fold 26 = .ok (.ifCond .eq 11, 3) := by decide +kernel
theorem dM_fold_29 : decode cM_fold 29 = .ok (.aload_n 0, 1) := by decide +kernel
theorem dM_fold_30 : decode cM_fold 30 = .ok (.invokevirtual 94, 3) := by decide +kernel
theorem dM_fold_33 : decode cM_fold 33 = .ok (.istore_n 1, 1) := by decide +kernel
theorem dM_fold_34 : decode cM_fold 34 = .ok (.goto (-9), 3) := by decide +kernel
theorem dM_fold_37 : decode cM_fold 37 = .ok (.aload_n 0, 1) := by decide +kernel
theorem dM_fold_38 : decode cM_fold 38 = .ok (.aload_n 0, 1) := by decide +kernel
theorem dM_fold_39 : decode cM_fold 39 = .ok (.getfield 37, 3) := by decide +kernel
theorem dM_fold_42 : decode cM_fold 42 = .ok (.aload_n 0, 1) := by decide +kernel
theorem dM_fold_43 : decode cM_fold 43 = .ok (.getfield 72, 3) := by decide +kernel
theorem dM_fold_46 : decode cM_fold 46 = .ok (.iaload, 1) := by decide +kernel
theorem dM_fold_47 : decode cM_fold 47 = .ok (.putfield 72, 3) := by decide +kernel
theorem dM_fold_50 : decode cM_fold 50 = .ok (.return_, 1) := by decide +kernel
theorem dM_onlyWay_0 : decode cM_onlyWay 0 = .ok (.iconst (-1), 1) := by decide +kernel
theorem dM_onlyWay_1 : decode cM_onlyWay 1 = .ok (.istore_n 2, 1) := by decide +kernel
theorem dM_onlyWay_2 : decode cM_onlyWay 2 = .ok (.iconst 0, 1) := by decide +kernel
theorem dM_onlyWay_3 : decode cM_onlyWay 3 = .ok (.istore_n 3, 1) := by decide +kernel
theorem dM_onlyWay_4 : decode cM_onlyWay 4 = .ok (.iconst 0, 1) := by decide +kernel
theorem dM_onlyWay_5 : decode cM_onlyWay 5 = .ok (.istore 4, 2) := by decide +kernel
theorem dM_onlyWay_7 : decode cM_onlyWay 7 = .ok (.iload 4, 2) := by decide +kernel
theorem dM_onlyWay_9 : decode cM_onlyWay 9 = .ok (.bipush 6, 2) := by decide +kernel
theorem dM_onlyWay_11 : decode cM_onlyWay 11 = .ok (.if_icmp .ge 30, 3) := by decide +kernel
theorem dM_onlyWay_14 : decode cM_onlyWay 14 = .ok (.aload_n 0, 1) := by decide +kernel
theorem dM_onlyWay_15 : decode cM_onlyWay 15 = .ok (.getfield 40, 3) := by decide +kernel
theorem dM_onlyWay_18 : decode cM_onlyWay 18 = .ok (.bipush 6, 2) := by decide +kernel
theorem dM_onlyWay_20 : decode cM_onlyWay 20 = .ok (.iload_n 1, 1) := by decide +kernel
theorem dM_onlyWay_21 : decode cM_onlyWay 21 = .ok (.imul, 1) := by decide +kernel
theorem dM_onlyWay_22 : decode cM_onlyWay 22 = .ok (.iload 4, 2) := by decide +kernel
theorem dM_onlyWay_24 : decode cM_onlyWay 24 = .ok (.iadd, 1) := by decide +kernel
theorem dM_onlyWay_25 : decode cM_onlyWay 25 = .ok (.iaload, 1) := by decide +kernel
theorem dM_onlyWay_26 : decode cM_onlyWay 26 = .ok (.ifCond .lt 9, 3) := by decide +kernel
theorem dM_onlyWay_29 : decode cM_onlyWay 29 = .ok (.iload 4, 2) := by decide +kernel
theorem dM_onlyWay_31 : decode cM_onlyWay 31 = .ok (.istore_n 2, 1) := by decide +kernel
theorem dM_onlyWay_32 : decode cM_onlyWay 32 = .ok (.iinc 3 1, 3) := by decide +kernel
theorem dM_onlyWay_35 : decode cM_onlyWay 35 = .ok (.iinc 4 1, 3) := by decide +kernel
theorem dM_onlyWay_38 : decode cM_onlyWay 38 = .ok (.goto (-31), 3) := by decide +kernel
theorem dM_onlyWay_41 : decode cM_onlyWay 41 = .ok (.iload_n 3, 1) := by decide +kernel
theorem dM_onlyWay_42 : decode cM_onlyWay 42 = .ok (.iconst 1, 1) := by decide +kernel
theorem dM_onlyWay_43 : decode cM_onlyWay 43 = .ok (.if_icmp .ne 7, 3) := by decide +kernel
theorem dM_onlyWay_46 : decode cM_onlyWay 46 = .ok (.iload_n 2, 1) := by decide +kernel
theorem dM_onlyWay_47 : decode cM_onlyWay 47 = .ok (.goto 4, 3) := by decide +kernel
theorem dM_onlyWay_50 : decode cM_onlyWay 50 = .ok (.iconst (-1), 1) := by decide +kernel
theorem dM_onlyWay_51 : decode cM_onlyWay 51 = .ok (.ireturn, 1) := by decide +kernel
theorem dM_trim_0 : decode cM_trim 0 = .ok (.iconst 1, 1) := by decide +kernel
theorem dM_trim_1 : decode cM_trim 1 = .ok (.istore_n 1, 1) := by decide +kernel
theorem dM_trim_2 : decode cM_trim 2 = .ok (.iload_n 1, 1) := by decide +kernel
theorem dM_trim_3 : decode cM_trim 3 = .ok (.ifCond .eq 88, 3) := by decide +kernel
theorem dM_trim_6 : decode cM_trim 6 = .ok (.iconst 0, 1) := by decide +kernel
theorem dM_trim_7 : decode cM_trim 7 = .ok (.istore_n 1, 1) := by decide +kernel
theorem dM_trim_8 : decode cM_trim 8 = .ok (.iconst 0, 1) := by decide +kernel
theorem dM_trim_9 : decode cM_trim 9 = .ok (.istore_n 2, 1) := by decide +kernel
theorem dM_trim_10 : decode cM_trim 10 = .ok (.iload_n 2, 1) := by decide +kernel
theorem dM_trim_11 : decode cM_trim 11 = .ok (.aload_n 0, 1) := by decide +kernel
theorem dM_trim_12 : decode cM_trim 12 = .ok (.getfield 69, 3) := by decide +kernel
theorem dM_trim_15 : decode cM_trim 15 = .ok (.if_icmp .ge 73, 3) := by decide +kernel
theorem dM_trim_18 : decode cM_trim 18 = .ok (.iload_n 2, 1) := by decide +kernel
theorem dM_trim_19 : decode cM_trim 19 = .ok (.aload_n 0, 1) := by decide +kernel
theorem dM_trim_20 : decode cM_trim 20 = .ok (.getfield 72, 3) := by decide +kernel
theorem dM_trim_23 : decode cM_trim 23 = .ok (.if_icmp .ne 7, 3) := by decide +kernel
theorem dM_trim_26 : decode cM_trim 26 = .ok (.iconst (-1), 1) := by decide +kernel
theorem dM_trim_27 : decode cM_trim 27 = .ok (.goto 8, 3) := by decide +kernel
theorem dM_trim_30 : decode cM_trim 30 = .ok (.aload_n 0, 1) := by decide +kernel
theorem dM_trim_31 : decode cM_trim 31 = .ok (.iload_n 2, 1) := by decide +kernel
theorem dM_trim_32 : decode cM_trim 32 = .ok (.invokevirtual 98, 3) := by decide +kernel
theorem dM_trim_35 : decode cM_trim 35 = .ok (.istore_n 3, 1) := by decide +kernel
theorem dM_trim_36 : decode cM_trim 36 = .ok (.iload_n 3, 1) := by decide +kernel
theorem dM_trim_37 : decode cM_trim 37 = .ok (.ifCond .lt 45, 3) := by decide +kernel
theorem dM_trim_40 : decode cM_trim 40 = .ok (.aload_n 0, 1) := by decide +kernel
theorem dM_trim_41 : decode cM_trim 41 = .ok (.getfield 40, 3) := by decide +kernel
theorem dM_trim_44 : decode cM_trim 44 = .ok (.bipush 6, 2) := by decide +kernel
theorem dM_trim_46 : decode cM_trim 46 = .ok (.iload_n 2, 1) := by decide +kernel
theorem dM_trim_47 : decode cM_trim 47 = .ok (.imul, 1) := by decide +kernel
theorem dM_trim_48 : decode cM_trim 48 = .ok (.iload_n 3, 1) := by decide +kernel
theorem dM_trim_49 : decode cM_trim 49 = .ok (.iadd, 1) := by decide +kernel
theorem dM_trim_50 : decode cM_trim 50 = .ok (.iaload, 1) := by decide +kernel
theorem dM_trim_51 : decode cM_trim 51 = .ok (.istore 4, 2) := by decide +kernel
theorem dM_trim_53 : decode cM_trim 53 = .ok (.aload_n 0, 1) := by decide +kernel
theorem dM_trim_54 : decode cM_trim 54 = .ok (.getfield 40, 3) := by decide +kernel
theorem dM_trim_57 : decode cM_trim 57 = .ok (.bipush 6, 2) := by decide +kernel
theorem dM_trim_59 : decode cM_trim 59 = .ok (.iload_n 2, 1) := by decide +kernel
theorem dM_trim_60 : decode cM_trim 60 = .ok (.imul, 1) := by decide +kernel
theorem dM_trim_61 : decode cM_trim 61 = .ok (.iload_n 3, 1) := by decide +kernel
theorem dM_trim_62 : decode cM_trim 62 = .ok (.iadd, 1) := by decide +kernel
theorem dM_trim_63 : decode cM_trim 63 = .ok (.iconst (-1), 1) := by decide +kernel
theorem dM_trim_64 : decode cM_trim 64 = .ok (.iastore, 1) := by decide +kernel
theorem dM_trim_65 : decode cM_trim 65 = .ok (.aload_n 0, 1) := by decide +kernel
theorem dM_trim_66 : decode cM_trim 66 = .ok (.getfield 40, 3) := by decide +kernel
theorem dM_trim_69 : decode cM_trim 69 = .ok (.bipush 6, 2) := by decide +kernel
theorem dM_trim_71 : decode cM_trim 71 = .ok (.iload 4, 2) := by decide +kernel
theorem dM_trim_73 : decode cM_trim 73 = .ok (.imul, 1) := by decide +kernel
theorem dM_trim_74 : decode cM_trim 74 = .ok (.iload_n 3, 1) := by decide +kernel
theorem dM_trim_75 : decode cM_trim 75 = .ok (.iconst 1, 1) := by decide +kernel
theorem dM_trim_76 : decode cM_trim 76 = .ok (.ixor, 1) := by decide +kernel
theorem dM_trim_77 : decode cM_trim 77 = .ok (.iadd, 1) := by decide +kernel
theorem dM_trim_78 : decode cM_trim 78 = .ok (.iconst (-1), 1) := by decide +kernel
theorem dM_trim_79 : decode cM_trim 79 = .ok (.iastore, 1) := by decide +kernel
theorem dM_trim_80 : decode cM_trim 80 = .ok (.iconst 1, 1) := by decide +kernel
theorem dM_trim_81 : decode cM_trim 81 = .ok (.istore_n 1, 1) := by decide +kernel
theorem dM_trim_82 : decode cM_trim 82 = .ok (.iinc 2 1, 3) := by decide +kernel
theorem dM_trim_85 : decode cM_trim 85 = .ok (.goto (-75), 3) := by decide +kernel
theorem dM_trim_88 : decode cM_trim 88 = .ok (.goto (-86), 3) := by decide +kernel
theorem dM_trim_91 : decode cM_trim 91 = .ok (.return_, 1) := by decide +kernel
theorem dM_settle_0 : decode cM_settle 0 = .ok (.iconst 0, 1) := by decide +kernel
theorem dM_settle_1 : decode cM_settle 1 = .ok (.istore_n 2, 1) := by decide +kernel
theorem dM_settle_2 : decode cM_settle 2 = .ok (.iload_n 2, 1) := by decide +kernel
theorem dM_settle_3 : decode cM_settle 3 = .ok (.bipush 64, 2) := by decide +kernel
theorem dM_settle_5 : decode cM_settle 5 = .ok (.if_icmp .ge 16, 3) := by decide +kernel
theorem dM_settle_8 : decode cM_settle 8 = .ok (.aload_n 0, 1) := by decide +kernel
theorem dM_settle_9 : decode cM_settle 9 = .ok (.getfield 43, 3) := by decide +kernel
theorem dM_settle_12 : decode cM_settle 12 = .ok (.iload_n 2, 1) := by decide +kernel
theorem dM_settle_13 : decode cM_settle 13 = .ok (.iconst (-1), 1) := by decide +kernel
theorem dM_settle_14 : decode cM_settle 14 = .ok (.iastore, 1) := by decide +kernel
theorem dM_settle_15 : decode cM_settle 15 = .ok (.iinc 2 1, 3) := by decide +kernel
theorem dM_settle_18 : decode cM_settle 18 = .ok (.goto (-16), 3) := by decide +kernel
theorem dM_settle_21 : decode cM_settle 21 = .ok (.aload_n 0, 1) := by decide +kernel
theorem dM_settle_22 : decode cM_settle 22 = .ok (.getfield 43, 3) := by decide +kernel
theorem dM_settle_25 : decode cM_settle 25 = .ok (.aload_n 0, 1) := by decide +kernel
theorem dM_settle_26 : decode cM_settle 26 = .ok (.getfield 72, 3) := by decide +kernel
theorem dM_settle_29 : decode cM_settle 29 = .ok (.iconst 0, 1) := by decide +kernel
theorem dM_settle_30 : decode cM_settle 30 = .ok (.iastore, 1) := by decide +kernel
theorem dM_settle_31 : decode cM_settle 31 = .ok (.aload_n 0, 1) := by decide +kernel
theorem dM_settle_32 : decode cM_settle 32 = .ok (.getfield 46, 3) := by decide +kernel
theorem dM_settle_35 : decode cM_settle 35 = .ok (.iconst 0, 1) := by decide +kernel
theorem dM_settle_36 : decode cM_settle 36 = .ok (.aload_n 0, 1) := by decide +kernel
theorem dM_settle_37 : decode cM_settle 37 = .ok (.getfield 72, 3) := by decide +kernel
theorem dM_settle_40 : decode cM_settle 40 = .ok (.iastore, 1) := by decide +kernel
theorem dM_settle_41 : decode cM_settle 41 = .ok (.aload_n 0, 1) := by decide +kernel
theorem dM_settle_42 : decode cM_settle 42 = .ok (.getfield 25, 3) := by decide +kernel
theorem dM_settle_45 : decode cM_settle 45 = .ok (.bipush 64, 2) := by decide +kernel
theorem dM_settle_47 : decode cM_settle 47 = .ok (.iload_n 1, 1) := by decide +kernel
theorem dM_settle_48 : decode cM_settle 48 = .ok (.imul, 1) := by decide +kernel
theorem dM_settle_49 : decode cM_settle 49 = .ok (.iconst 0, 1) := by decide +kernel
theorem dM_settle_50 : decode cM_settle 50 = .ok (.iastore, 1) := by decide +kernel
theorem dM_settle_51 : decode cM_settle 51 = .ok (.iconst 1, 1) := by decide +kernel
theorem dM_settle_52 : decode cM_settle 52 = .ok (.istore_n 2, 1) := by decide +kernel
theorem dM_settle_53 : decode cM_settle 53 = .ok (.iconst 0, 1) := by decide +kernel
theorem dM_settle_54 : decode cM_settle 54 = .ok (.istore_n 3, 1) := by decide +kernel
theorem dM_settle_55 : decode cM_settle 55 = .ok (.iload_n 3, 1) := by decide +kernel
theorem dM_settle_56 : decode cM_settle 56 = .ok (.iload_n 2, 1) := by decide +kernel
theorem dM_settle_57 : decode cM_settle 57 = .ok (.if_icmp .ge 127, 3) := by decide +kernel
theorem dM_settle_60 : decode cM_settle 60 = .ok (.iconst 0, 1) := by decide +kernel
theorem dM_settle_61 : decode cM_settle 61 = .ok (.istore 4, 2) := by decide +kernel
theorem dM_settle_63 : decode cM_settle 63 = .ok (.iload 4, 2) := by decide +kernel
theorem dM_settle_65 : decode cM_settle 65 = .ok (.bipush 6, 2) := by decide +kernel
theorem dM_settle_67 : decode cM_settle 67 = .ok (.if_icmp .ge 111, 3) := by decide +kernel
theorem dM_settle_70 : decode cM_settle 70 = .ok (.aload_n 0, 1) := by decide +kernel
theorem dM_settle_71 : decode cM_settle 71 = .ok (.getfield 40, 3) := by decide +kernel
theorem dM_settle_74 : decode cM_settle 74 = .ok (.bipush 6, 2) := by decide +kernel
theorem dM_settle_76 : decode cM_settle 76 = .ok (.aload_n 0, 1) := by decide +kernel
theorem dM_settle_77 : decode cM_settle 77 = .ok (.getfield 46, 3) := by decide +kernel
theorem dM_settle_80 : decode cM_settle 80 = .ok (.iload_n 3, 1) := by decide +kernel
theorem dM_settle_81 : decode cM_settle 81 = .ok (.iaload, 1) := by decide +kernel
theorem dM_settle_82 : decode cM_settle 82 = .ok (.imul, 1) := by decide +kernel
theorem dM_settle_83 : decode cM_settle 83 = .ok (.iload 4, 2) := by decide +kernel
theorem dM_settle_85 : decode cM_settle 85 = .ok (.iadd, 1) := by decide +kernel
theorem dM_settle_86 : decode cM_settle 86 = .ok (.iaload, 1) := by decide +kernel
theorem dM_settle_87 : decode cM_settle 87 = .ok (.istore 5, 2) := by decide +kernel
theorem dM_settle_89 : decode cM_settle 89 = .ok (.iload 5, 2) := by decide +kernel
theorem dM_settle_91 : decode cM_settle 91 = .ok (.ifCond .lt 81, 3) := by decide +kernel
theorem dM_settle_94 : decode cM_settle 94 = .ok (.aload_n 0, 1) := by decide +kernel
theorem dM_settle_95 : decode cM_settle 95 = .ok (.getfield 43, 3) := by decide +kernel
theorem dM_settle_98 : decode cM_settle 98 = .ok (.iload 5, 2) := by decide +kernel
theorem dM_settle_100 : decode cM_settle 100 = .ok (.iaload, 1) := by decide +kernel
theorem dM_settle_101 : decode cM_settle 101 = .ok (.ifCond .ge 71, 3) := by decide +kernel
theorem dM_settle_104 : decode cM_settle 104 = .ok (.aload_n 0, 1) := by decide +kernel
theorem dM_settle_105 : decode cM_settle 105 = .ok (.getfield 43, 3) := by decide +kernel
theorem dM_settle_108 : decode cM_settle 108 = .ok (.iload 5, 2) := by decide +kernel
theorem dM_settle_110 : decode cM_settle 110 = .ok (.iload_n 2, 1) := by decide +kernel
theorem dM_settle_111 : decode cM_settle 111 = .ok (.iastore, 1) := by decide +kernel
theorem dM_settle_112 : decode cM_settle 112 = .ok (.aload_n 0, 1) := by decide +kernel
theorem dM_settle_113 : decode cM_settle 113 = .ok (.getfield 46, 3) := by decide +kernel
theorem dM_settle_116 : decode cM_settle 116 = .ok (.iload_n 2, 1) := by decide +kernel
theorem dM_settle_117 : decode cM_settle 117 = .ok (.iload 5, 2) := by decide +kernel
theorem dM_settle_119 : decode cM_settle 119 = .ok (.iastore, 1) := by decide +kernel
theorem dM_settle_120 : decode cM_settle 120 = .ok (.aload_n 0, 1) := by decide +kernel
end
section
theorem dM_settle_121 : decode cM_settle 121 = .ok (.getfield 19, 3) := by decide +kernel
theorem dM_settle_124 : decode cM_settle 124 = .ok (.bipush 64, 2) := by decide +kernel
theorem dM_settle_126 : decode cM_settle 126 = .ok (.iload_n 1, 1) := by decide +kernel
theorem dM_settle_127 : decode cM_settle 127 = .ok (.imul, 1) := by decide +kernel
theorem dM_settle_128 : decode cM_settle 128 = .ok (.iload_n 2, 1) := by decide +kernel
theorem dM_settle_129 : decode cM_settle 129 = .ok (.iadd, 1) := by decide +kernel
theorem dM_settle_130 : decode cM_settle 130 = .ok (.iload_n 3, 1) := by decide +kernel
theorem dM_settle_131 : decode cM_settle 131 = .ok (.iastore, 1) := by decide +kernel
theorem dM_settle_132 : decode cM_settle 132 = .ok (.aload_n 0, 1) := by decide +kernel
theorem dM_settle_133 : decode cM_settle 133 = .ok (.getfield 22, 3) := by decide +kernel
theorem dM_settle_136 : decode cM_settle 136 = .ok (.bipush 64, 2) := by decide +kernel
theorem dM_settle_138 : decode cM_settle 138 = .ok (.iload_n 1, 1) := by decide +kernel
theorem dM_settle_139 : decode cM_settle 139 = .ok (.imul, 1) := by decide +kernel
theorem dM_settle_140 : decode cM_settle 140 = .ok (.iload_n 2, 1) := by decide +kernel
theorem dM_settle_141 : decode cM_settle 141 = .ok (.iadd, 1) := by decide +kernel
theorem dM_settle_142 : decode cM_settle 142 = .ok (.iload 4, 2) := by decide +kernel
theorem dM_settle_144 : decode cM_settle 144 = .ok (.iastore, 1) := by decide +kernel
theorem dM_settle_145 : decode cM_settle 145 = .ok (.aload_n 0, 1) := by decide +kernel
theorem dM_settle_146 : decode cM_settle 146 = .ok (.getfield 25, 3) := by decide +kernel
theorem dM_settle_149 : decode cM_settle 149 = .ok (.bipush 64, 2) := by decide +kernel
theorem dM_settle_151 : decode cM_settle 151 = .ok (.iload_n 1, 1) := by decide +kernel
theorem dM_settle_152 : decode cM_settle 152 = .ok (.imul, 1) := by decide +kernel
theorem dM_settle_153 : decode cM_settle 153 = .ok (.iload_n 2, 1) := by decide +kernel
theorem dM_settle_154 : decode cM_settle 154 = .ok (.iadd, 1) := by decide +kernel
theorem dM_settle_155 : decode cM_settle 155 = .ok (.aload_n 0, 1) := by decide +kernel
theorem dM_settle_156 : decode cM_settle 156 = .ok (.getfield 25, 3) := by decide +kernel
theorem dM_settle_159 : decode cM_settle 159 = .ok (.bipush 64, 2) := by decide +kernel
theorem dM_settle_161 : decode cM_settle 161 = .ok (.iload_n 1, 1) := by decide +kernel
theorem dM_settle_162 : decode cM_settle 162 = .ok (.imul, 1) := by decide +kernel
theorem dM_settle_163 : decode cM_settle 163 = .ok (.iload_n 3, 1) := by decide +kernel
theorem dM_settle_164 : decode cM_settle 164 = .ok (.iadd, 1) := by decide +kernel
theorem dM_settle_165 : decode cM_settle 165 = .ok (.iaload, 1) := by decide +kernel
theorem dM_settle_166 : decode cM_settle 166 = .ok (.iconst 1, 1) := by decide +kernel
theorem dM_settle_167 : decode cM_settle 167 = .ok (.iadd, 1) := by decide +kernel
theorem dM_settle_168 : decode cM_settle 168 = .ok (.iastore, 1) := by decide +kernel
theorem dM_settle_169 : decode cM_settle 169 = .ok (.iinc 2 1, 3) := by decide +kernel
theorem dM_settle_172 : decode cM_settle 172 = .ok (.iinc 4 1, 3) := by decide +kernel
theorem dM_settle_175 : decode cM_settle 175 = .ok (.goto (-112), 3) := by decide +kernel
theorem dM_settle_178 : decode cM_settle 178 = .ok (.iinc 3 1, 3) := by decide +kernel
theorem dM_settle_181 : decode cM_settle 181 = .ok (.goto (-126), 3) := by decide +kernel
theorem dM_settle_184 : decode cM_settle 184 = .ok (.iconst 0, 1) := by decide +kernel
theorem dM_settle_185 : decode cM_settle 185 = .ok (.istore_n 3, 1) := by decide +kernel
theorem dM_settle_186 : decode cM_settle 186 = .ok (.iload_n 3, 1) := by decide +kernel
theorem dM_settle_187 : decode cM_settle 187 = .ok (.iload_n 2, 1) := by decide +kernel
theorem dM_settle_188 : decode cM_settle 188 = .ok (.if_icmp .ge 78, 3) := by decide +kernel
theorem dM_settle_191 : decode cM_settle 191 = .ok (.iconst 0, 1) := by decide +kernel
theorem dM_settle_192 : decode cM_settle 192 = .ok (.istore 4, 2) := by decide +kernel
theorem dM_settle_194 : decode cM_settle 194 = .ok (.iload 4, 2) := by decide +kernel
theorem dM_settle_196 : decode cM_settle 196 = .ok (.bipush 6, 2) := by decide +kernel
theorem dM_settle_198 : decode cM_settle 198 = .ok (.if_icmp .ge 62, 3) := by decide +kernel
theorem dM_settle_201 : decode cM_settle 201 = .ok (.aload_n 0, 1) := by decide +kernel
theorem dM_settle_202 : decode cM_settle 202 = .ok (.getfield 40, 3) := by decide +kernel
theorem dM_settle_205 : decode cM_settle 205 = .ok (.bipush 6, 2) := by decide +kernel
theorem dM_settle_207 : decode cM_settle 207 = .ok (.aload_n 0, 1) := by decide +kernel
theorem dM_settle_208 : decode cM_settle 208 = .ok (.getfield 46, 3) := by decide +kernel
theorem dM_settle_211 : decode cM_settle 211 = .ok (.iload_n 3, 1) := by decide +kernel
theorem dM_settle_212 : decode cM_settle 212 = .ok (.iaload, 1) := by decide +kernel
theorem dM_settle_213 : decode cM_settle 213 = .ok (.imul, 1) := by decide +kernel
theorem dM_settle_214 : decode cM_settle 214 = .ok (.iload 4, 2) := by decide +kernel
theorem dM_settle_216 : decode cM_settle 216 = .ok (.iadd, 1) := by decide +kernel
theorem dM_settle_217 : decode cM_settle 217 = .ok (.iaload, 1) := by decide +kernel
theorem dM_settle_218 : decode cM_settle 218 = .ok (.istore 5, 2) := by decide +kernel
theorem dM_settle_220 : decode cM_settle 220 = .ok (.aload_n 0, 1) := by decide +kernel
theorem dM_settle_221 : decode cM_settle 221 = .ok (.getfield 16, 3) := by decide +kernel
theorem dM_settle_224 : decode cM_settle 224 = .ok (.sipush 384, 3) := by decide +kernel
theorem dM_settle_227 : decode cM_settle 227 = .ok (.iload_n 1, 1) := by decide +kernel
theorem dM_settle_228 : decode cM_settle 228 = .ok (.imul, 1) := by decide +kernel
theorem dM_settle_229 : decode cM_settle 229 = .ok (.bipush 6, 2) := by decide +kernel
theorem dM_settle_231 : decode cM_settle 231 = .ok (.iload_n 3, 1) := by decide +kernel
theorem dM_settle_232 : decode cM_settle 232 = .ok (.imul, 1) := by decide +kernel
theorem dM_settle_233 : decode cM_settle 233 = .ok (.iadd, 1) := by decide +kernel
theorem dM_settle_234 : decode cM_settle 234 = .ok (.iload 4, 2) := by decide +kernel
theorem dM_settle_236 : decode cM_settle 236 = .ok (.iadd, 1) := by decide +kernel
theorem dM_settle_237 : decode cM_settle 237 = .ok (.iload 5, 2) := by decide +kernel
theorem dM_settle_239 : decode cM_settle 239 = .ok (.ifCond .ge 7, 3) := by decide +kernel
theorem dM_settle_242 : decode cM_settle 242 = .ok (.iconst (-1), 1) := by decide +kernel
theorem dM_settle_243 : decode cM_settle 243 = .ok (.goto 10, 3) := by decide +kernel
theorem dM_settle_246 : decode cM_settle 246 = .ok (.aload_n 0, 1) := by decide +kernel
theorem dM_settle_247 : decode cM_settle 247 = .ok (.getfield 43, 3) := by decide +kernel
theorem dM_settle_250 : decode cM_settle 250 = .ok (.iload 5, 2) := by decide +kernel
theorem dM_settle_252 : decode cM_settle 252 = .ok (.iaload, 1) := by decide +kernel
theorem dM_settle_253 : decode cM_settle 253 = .ok (.iastore, 1) := by decide +kernel
theorem dM_settle_254 : decode cM_settle 254 = .ok (.iinc 4 1, 3) := by decide +kernel
theorem dM_settle_257 : decode cM_settle 257 = .ok (.goto (-63), 3) := by decide +kernel
theorem dM_settle_260 : decode cM_settle 260 = .ok (.iinc 3 1, 3) := by decide +kernel
theorem dM_settle_263 : decode cM_settle 263 = .ok (.goto (-77), 3) := by decide +kernel
theorem dM_settle_266 : decode cM_settle 266 = .ok (.aload_n 0, 1) := by decide +kernel
theorem dM_settle_267 : decode cM_settle 267 = .ok (.getfield 13, 3) := by decide +kernel
theorem dM_settle_270 : decode cM_settle 270 = .ok (.iload_n 1, 1) := by decide +kernel
theorem dM_settle_271 : decode cM_settle 271 = .ok (.iload_n 2, 1) := by decide +kernel
theorem dM_settle_272 : decode cM_settle 272 = .ok (.iastore, 1) := by decide +kernel
theorem dM_settle_273 : decode cM_settle 273 = .ok (.iload_n 2, 1) := by decide +kernel
theorem dM_settle_274 : decode cM_settle 274 = .ok (.ireturn, 1) := by decide +kernel
theorem dM_generate_0 : decode cM_generate 0 = .ok (.iload_n 1, 1) := by decide +kernel
theorem dM_generate_1 : decode cM_generate 1 = .ok (.invokestatic 101, 3) := by decide +kernel
theorem dM_generate_4 : decode cM_generate 4 = .ok (.ifCond .ne 5, 3) := by decide +kernel
theorem dM_generate_7 : decode cM_generate 7 = .ok (.iconst (-1), 1) := by decide +kernel
theorem dM_generate_8 : decode cM_generate 8 = .ok (.ireturn, 1) := by decide +kernel
theorem dM_generate_9 : decode cM_generate 9 = .ok (.aload_n 0, 1) := by decide +kernel
theorem dM_generate_10 : decode cM_generate 10 = .ok (.getfield 13, 3) := by decide +kernel
theorem dM_generate_13 : decode cM_generate 13 = .ok (.iload_n 1, 1) := by decide +kernel
theorem dM_generate_14 : decode cM_generate 14 = .ok (.iaload, 1) := by decide +kernel
theorem dM_generate_15 : decode cM_generate 15 = .ok (.istore_n 2, 1) := by decide +kernel
theorem dM_generate_16 : decode cM_generate 16 = .ok (.aload_n 0, 1) := by decide +kernel
theorem dM_generate_17 : decode cM_generate 17 = .ok (.getfield 66, 3) := by decide +kernel
theorem dM_generate_20 : decode cM_generate 20 = .ok (.ifCond .le 19, 3) := by decide +kernel
theorem dM_generate_23 : decode cM_generate 23 = .ok (.iload_n 2, 1) := by decide +kernel
theorem dM_generate_24 : decode cM_generate 24 = .ok (.aload_n 0, 1) := by decide +kernel
theorem dM_generate_25 : decode cM_generate 25 = .ok (.getfield 66, 3) := by decide +kernel
theorem dM_generate_28 : decode cM_generate 28 = .ok (.iadd, 1) := by decide +kernel
theorem dM_generate_29 : decode cM_generate 29 = .ok (.iconst 1, 1) := by decide +kernel
theorem dM_generate_30 : decode cM_generate 30 = .ok (.isub, 1) := by decide +kernel
theorem dM_generate_31 : decode cM_generate 31 = .ok (.bipush 64, 2) := by decide +kernel
theorem dM_generate_33 : decode cM_generate 33 = .ok (.if_icmp .le 6, 3) := by decide +kernel
theorem dM_generate_36 : decode cM_generate 36 = .ok (.bipush (-2), 2) := by decide +kernel
theorem dM_generate_38 : decode cM_generate 38 = .ok (.ireturn, 1) := by decide +kernel
theorem dM_generate_39 : decode cM_generate 39 = .ok (.aload_n 0, 1) := by decide +kernel
theorem dM_generate_40 : decode cM_generate 40 = .ok (.aload_n 0, 1) := by decide +kernel
theorem dM_generate_41 : decode cM_generate 41 = .ok (.getfield 66, 3) := by decide +kernel
theorem dM_generate_44 : decode cM_generate 44 = .ok (.ifCond .le 14, 3) := by decide +kernel
theorem dM_generate_47 : decode cM_generate 47 = .ok (.iload_n 2, 1) := by decide +kernel
theorem dM_generate_48 : decode cM_generate 48 = .ok (.aload_n 0, 1) := by decide +kernel
theorem dM_generate_49 : decode cM_generate 49 = .ok (.getfield 66, 3) := by decide +kernel
theorem dM_generate_52 : decode cM_generate 52 = .ok (.iadd, 1) := by decide +kernel
theorem dM_generate_53 : decode cM_generate 53 = .ok (.iconst 1, 1) := by decide +kernel
theorem dM_generate_54 : decode cM_generate 54 = .ok (.isub, 1) := by decide +kernel
theorem dM_generate_55 : decode cM_generate 55 = .ok (.goto 4, 3) := by decide +kernel
theorem dM_generate_58 : decode cM_generate 58 = .ok (.iload_n 2, 1) := by decide +kernel
theorem dM_generate_59 : decode cM_generate 59 = .ok (.invokevirtual 104, 3) := by decide +kernel
theorem dM_generate_62 : decode cM_generate 62 = .ok (.aload_n 0, 1) := by decide +kernel
theorem dM_generate_63 : decode cM_generate 63 = .ok (.iload_n 1, 1) := by decide +kernel
theorem dM_generate_64 : decode cM_generate 64 = .ok (.iconst 0, 1) := by decide +kernel
theorem dM_generate_65 : decode cM_generate 65 = .ok (.invokevirtual 108, 3) := by decide +kernel
theorem dM_generate_68 : decode cM_generate 68 = .ok (.iconst 0, 1) := by decide +kernel
theorem dM_generate_69 : decode cM_generate 69 = .ok (.istore_n 3, 1) := by decide +kernel
theorem dM_generate_70 : decode cM_generate 70 = .ok (.iload_n 3, 1) := by decide +kernel
theorem dM_generate_71 : decode cM_generate 71 = .ok (.aload_n 0, 1) := by decide +kernel
theorem dM_generate_72 : decode cM_generate 72 = .ok (.getfield 66, 3) := by decide +kernel
theorem dM_generate_75 : decode cM_generate 75 = .ok (.if_icmp .ge 49, 3) := by decide +kernel
theorem dM_generate_78 : decode cM_generate 78 = .ok (.aload_n 0, 1) := by decide +kernel
theorem dM_generate_79 : decode cM_generate 79 = .ok (.iload_n 3, 1) := by decide +kernel
theorem dM_generate_80 : decode cM_generate 80 = .ok (.ifCond .ne 7, 3) := by decide +kernel
theorem dM_generate_83 : decode cM_generate 83 = .ok (.iconst 0, 1) := by decide +kernel
theorem dM_generate_84 : decode cM_generate 84 = .ok (.goto 8, 3) := by decide +kernel
theorem dM_generate_87 : decode cM_generate 87 = .ok (.iload_n 2, 1) := by decide +kernel
theorem dM_generate_88 : decode cM_generate 88 = .ok (.iload_n 3, 1) := by decide +kernel
theorem dM_generate_89 : decode cM_generate 89 = .ok (.iadd, 1) := by decide +kernel
theorem dM_generate_90 : decode cM_generate 90 = .ok (.iconst 1, 1) := by decide +kernel
theorem dM_generate_91 : decode cM_generate 91 = .ok (.isub, 1) := by decide +kernel
theorem dM_generate_92 : decode cM_generate 92 = .ok (.aload_n 0, 1) := by decide +kernel
theorem dM_generate_93 : decode cM_generate 93 = .ok (.getfield 7, 3) := by decide +kernel
theorem dM_generate_96 : decode cM_generate 96 = .ok (.iload_n 3, 1) := by decide +kernel
theorem dM_generate_97 : decode cM_generate 97 = .ok (.iaload, 1) := by decide +kernel
theorem dM_generate_98 : decode cM_generate 98 = .ok (.iload_n 3, 1) := by decide +kernel
theorem dM_generate_99 : decode cM_generate 99 = .ok (.aload_n 0, 1) := by decide +kernel
theorem dM_generate_100 : decode cM_generate 100 = .ok (.getfield 66, 3) := by decide +kernel
theorem dM_generate_103 : decode cM_generate 103 = .ok (.iconst 1, 1) := by decide +kernel
theorem dM_generate_104 : decode cM_generate 104 = .ok (.isub, 1) := by decide +kernel
theorem dM_generate_105 : decode cM_generate 105 = .ok (.if_icmp .ne 7, 3) := by decide +kernel
theorem dM_generate_108 : decode cM_generate 108 = .ok (.iconst 0, 1) := by decide +kernel
theorem dM_generate_109 : decode cM_generate 109 = .ok (.goto 6, 3) := by decide +kernel
theorem dM_generate_112 : decode cM_generate 112 = .ok (.iload_n 2, 1) := by decide +kernel
theorem dM_generate_113 : decode cM_generate 113 = .ok (.iload_n 3, 1) := by decide +kernel
theorem dM_generate_114 : decode cM_generate 114 = .ok (.iadd, 1) := by decide +kernel
theorem dM_generate_115 : decode cM_generate 115 = .ok (.invokevirtual 86, 3) := by decide +kernel
theorem dM_generate_118 : decode cM_generate 118 = .ok (.iinc 3 1, 3) := by decide +kernel
theorem dM_generate_121 : decode cM_generate 121 = .ok (.goto (-51), 3) := by decide +kernel
theorem dM_generate_124 : decode cM_generate 124 = .ok (.aload_n 0, 1) := by decide +kernel
theorem dM_generate_125 : decode cM_generate 125 = .ok (.invokevirtual 111, 3) := by decide +kernel
theorem dM_generate_128 : decode cM_generate 128 = .ok (.aload_n 0, 1) := by decide +kernel
theorem dM_generate_129 : decode cM_generate 129 = .ok (.iload_n 1, 1) := by decide +kernel
theorem dM_generate_130 : decode cM_generate 130 = .ok (.invokevirtual 114, 3) := by decide +kernel
theorem dM_generate_133 : decode cM_generate 133 = .ok (.ireturn, 1) := by decide +kernel
theorem dM_drop_0 : decode cM_drop 0 = .ok (.iload_n 1, 1) := by decide +kernel
theorem dM_drop_1 : decode cM_drop 1 = .ok (.invokestatic 101, 3) := by decide +kernel
theorem dM_drop_4 : decode cM_drop 4 = .ok (.ifCond .ne 5, 3) := by decide +kernel
theorem dM_drop_7 : decode cM_drop 7 = .ok (.iconst (-1), 1) := by decide +kernel
theorem dM_drop_8 : decode cM_drop 8 = .ok (.ireturn, 1) := by decide +kernel
theorem dM_drop_9 : decode cM_drop 9 = .ok (.aload_n 0, 1) := by decide +kernel
theorem dM_drop_10 : decode cM_drop 10 = .ok (.getfield 13, 3) := by decide +kernel
theorem dM_drop_13 : decode cM_drop 13 = .ok (.iload_n 1, 1) := by decide +kernel
theorem dM_drop_14 : decode cM_drop 14 = .ok (.iaload, 1) := by decide +kernel
theorem dM_drop_15 : decode cM_drop 15 = .ok (.istore_n 2, 1) := by decide +kernel
theorem dM_drop_16 : decode cM_drop 16 = .ok (.aload_n 0, 1) := by decide +kernel
theorem dM_drop_17 : decode cM_drop 17 = .ok (.iconst 1, 1) := by decide +kernel
theorem dM_drop_18 : decode cM_drop 18 = .ok (.invokevirtual 104, 3) := by decide +kernel
theorem dM_drop_21 : decode cM_drop 21 = .ok (.aload_n 0, 1) := by decide +kernel
theorem dM_drop_22 : decode cM_drop 22 = .ok (.invokevirtual 111, 3) := by decide +kernel
theorem dM_drop_25 : decode cM_drop 25 = .ok (.aload_n 0, 1) := by decide +kernel
theorem dM_drop_26 : decode cM_drop 26 = .ok (.iload_n 1, 1) := by decide +kernel
theorem dM_drop_27 : decode cM_drop 27 = .ok (.invokevirtual 114, 3) := by decide +kernel
theorem dM_drop_30 : decode cM_drop 30 = .ok (.istore_n 3, 1) := by decide +kernel
theorem dM_drop_31 : decode cM_drop 31 = .ok (.iload_n 2, 1) := by decide +kernel
theorem dM_drop_32 : decode cM_drop 32 = .ok (.ireturn, 1) := by decide +kernel
theorem dM_conjugate_0 : decode cM_conjugate 0 = .ok (.iload_n 1, 1) := by decide +kernel
theorem dM_conjugate_1 : decode cM_conjugate 1 = .ok (.invokestatic 101, 3) := by decide +kernel
theorem dM_conjugate_4 : decode cM_conjugate 4 = .ok (.ifCond .eq 10, 3) := by decide +kernel
theorem dM_conjugate_7 : decode cM_conjugate 7 = .ok (.iload_n 2, 1) := by decide +kernel
theorem dM_conjugate_8 : decode cM_conjugate 8 = .ok (.invokestatic 101, 3) := by decide +kernel
theorem dM_conjugate_11 : decode cM_conjugate 11 = .ok (.ifCond .ne 5, 3) := by decide +kernel
theorem dM_conjugate_14 : decode cM_conjugate 14 = .ok (.iconst (-1), 1) := by decide +kernel
theorem dM_conjugate_15 : decode cM_conjugate 15 = .ok (.ireturn, 1) := by decide +kernel
theorem dM_conjugate_16 : decode cM_conjugate 16 = .ok (.aload_n 0, 1) := by decide +kernel
theorem dM_conjugate_17 : decode cM_conjugate 17 = .ok (.getfield 13, 3) := by decide +kernel
theorem dM_conjugate_20 : decode cM_conjugate 20 = .ok (.iload_n 2, 1) := by decide +kernel
theorem dM_conjugate_21 : decode cM_conjugate 21 = .ok (.iaload, 1) := by decide +kernel
theorem dM_conjugate_22 : decode cM_conjugate 22 = .ok (.istore_n 3, 1) := by decide +kernel
theorem dM_conjugate_23 : decode cM_conjugate 23 = .ok (.iload_n 3, 1) := by decide +kernel
theorem dM_conjugate_24 : decode cM_conjugate 24 = .ok (.aload_n 0, 1) := by decide +kernel
theorem dM_conjugate_25 : decode cM_conjugate 25 = .ok (.getfield 66, 3) := by decide +kernel
theorem dM_conjugate_28 : decode cM_conjugate 28 = .ok (.iadd, 1) := by decide +kernel
theorem dM_conjugate_29 : decode cM_conjugate 29 = .ok (.bipush 64, 2) := by decide +kernel
theorem dM_conjugate_31 : decode cM_conjugate 31 = .ok (.if_icmp .le 6, 3) := by decide +kernel
theorem dM_conjugate_34 : decode cM_conjugate 34 = .ok (.bipush (-2), 2) := by decide +kernel
theorem dM_conjugate_36 : decode cM_conjugate 36 = .ok (.ireturn, 1) := by decide +kernel
theorem dM_conjugate_37 : decode cM_conjugate 37 = .ok (.aload_n 0, 1) := by decide +kernel
theorem dM_conjugate_38 : decode cM_conjugate 38 = .ok (.iload_n 3, 1) := by decide +kernel
theorem dM_conjugate_39 : decode cM_conjugate 39 = .ok (.aload_n 0, 1) := by decide +kernel
theorem dM_conjugate_40 : decode cM_conjugate 40 = .ok (.getfield 66, 3) := by decide +kernel
theorem dM_conjugate_43 : decode cM_conjugate 43 = .ok (.iadd, 1) := by decide +kernel
theorem dM_conjugate_44 : decode cM_conjugate 44 = .ok (.invokevirtual 104, 3) := by decide +kernel
theorem dM_conjugate_47 : decode cM_conjugate 47 = .ok (.aload_n 0, 1) := by decide +kernel
theorem dM_conjugate_48 : decode cM_conjugate 48 = .ok (.iload_n 2, 1) := by decide +kernel
theorem dM_conjugate_49 : decode cM_conjugate 49 = .ok (.iconst 0, 1) := by decide +kernel
theorem dM_conjugate_50 : decode cM_conjugate 50 = .ok (.invokevirtual 108, 3) := by decide +kernel
theorem dM_conjugate_53 : decode cM_conjugate 53 = .ok (.iconst 0, 1) := by decide +kernel
theorem dM_conjugate_54 : decode cM_conjugate 54 = .ok (.istore 4, 2) := by decide +kernel
theorem dM_conjugate_56 : decode cM_conjugate 56 = .ok (.iload 4, 2) := by decide +kernel
theorem dM_conjugate_58 : decode cM_conjugate 58 = .ok (.aload_n 0, 1) := by decide +kernel
theorem dM_conjugate_59 : decode cM_conjugate 59 = .ok (.getfield 66, 3) := by decide +kernel
theorem dM_conjugate_62 : decode cM_conjugate 62 = .ok (.if_icmp .ge 39, 3) := by decide +kernel
theorem dM_conjugate_65 : decode cM_conjugate 65 = .ok (.aload_n 0, 1) := by decide +kernel
theorem dM_conjugate_66 : decode cM_conjugate 66 = .ok (.iload 4, 2) := by decide +kernel
theorem dM_conjugate_68 : decode cM_conjugate 68 = .ok (.ifCond .ne 7, 3) := by decide +kernel
theorem dM_conjugate_71 : decode cM_conjugate 71 = .ok (.iconst 0, 1) := by decide +kernel
theorem dM_conjugate_72 : decode cM_conjugate 72 = .ok (.goto 9, 3) := by decide +kernel
theorem dM_conjugate_75 : decode cM_conjugate 75 = .ok (.iload_n 3, 1) := by decide +kernel
theorem dM_conjugate_76 : decode cM_conjugate 76 = .ok (.iload 4, 2) := by decide +kernel
theorem dM_conjugate_78 : decode cM_conjugate 78 = .ok (.iadd, 1) := by decide +kernel
theorem dM_conjugate_79 : decode cM_conjugate 79 = .ok (.iconst 1, 1) := by decide +kernel
theorem dM_conjugate_80 : decode cM_conjugate 80 = .ok (.isub, 1) := by decide +kernel
theorem dM_conjugate_81 : decode cM_conjugate 81 = .ok (.aload_n 0, 1) := by decide +kernel
theorem dM_conjugate_82 : decode cM_conjugate 82 = .ok (.getfield 7, 3) := by decide +kernel
theorem dM_conjugate_85 : decode cM_conjugate 85 = .ok (.iload 4, 2) := by decide +kernel
theorem dM_conjugate_87 : decode cM_conjugate 87 = .ok (.iaload, 1) := by decide +kernel
theorem dM_conjugate_88 : decode cM_conjugate 88 = .ok (.iload_n 3, 1) := by decide +kernel
theorem dM_conjugate_89 : decode cM_conjugate 89 = .ok (.iload 4, 2) := by decide +kernel
theorem dM_conjugate_91 : decode cM_conjugate 91 = .ok (.iadd, 1) := by decide +kernel
theorem dM_conjugate_92 : decode cM_conjugate 92 = .ok (.invokevirtual 86, 3) := by decide +kernel
theorem dM_conjugate_95 : decode cM_conjugate 95 = .ok (.iinc 4 1, 3) := by decide +kernel
theorem dM_conjugate_98 : decode cM_conjugate 98 = .ok (.goto (-42), 3) := by decide +kernel
theorem dM_conjugate_101 : decode cM_conjugate 101 = .ok (.aload_n 0, 1) := by decide +kernel
theorem dM_conjugate_102 : decode cM_conjugate 102 = .ok (.aload_n 0, 1) := by decide +kernel
theorem dM_conjugate_103 : decode cM_conjugate 103 = .ok (.getfield 66, 3) := by decide +kernel
theorem dM_conjugate_106 : decode cM_conjugate 106 = .ok (.ifCond .ne 7, 3) := by decide +kernel
theorem dM_conjugate_109 : decode cM_conjugate 109 = .ok (.iconst 0, 1) := by decide +kernel
theorem dM_conjugate_110 : decode cM_conjugate 110 = .ok (.goto 11, 3) := by decide +kernel
theorem dM_conjugate_113 : decode cM_conjugate 113 = .ok (.iload_n 3, 1) := by decide +kernel
theorem dM_conjugate_114 : decode cM_conjugate 114 = .ok (.aload_n 0, 1) := by decide +kernel
theorem dM_conjugate_115 : decode cM_conjugate 115 = .ok (.getfield 66, 3) := by decide +kernel
theorem dM_conjugate_118 : decode cM_conjugate 118 = .ok (.iadd, 1) := by decide +kernel
theorem dM_conjugate_119 : decode cM_conjugate 119 = .ok (.iconst 1, 1) := by decide +kernel
theorem dM_conjugate_120 : decode cM_conjugate 120 = .ok (.isub, 1) := by decide +kernel
theorem dM_conjugate_121 : decode cM_conjugate 121 = .ok (.putfield 72, 3) := by decide +kernel
theorem dM_conjugate_124 : decode cM_conjugate 124 = .ok (.aload_n 0, 1) := by decide +kernel
theorem dM_conjugate_125 : decode cM_conjugate 125 = .ok (.invokevirtual 111, 3) := by decide +kernel
theorem dM_conjugate_128 : decode cM_conjugate 128 = .ok (.aload_n 0, 1) := by decide +kernel
theorem dM_conjugate_129 : decode cM_conjugate 129 = .ok (.invokevirtual 117, 3) := by decide +kernel
theorem dM_conjugate_132 : decode cM_conjugate 132 = .ok (.aload_n 0, 1) := by decide +kernel
theorem dM_conjugate_133 : decode cM_conjugate 133 = .ok (.iload_n 1, 1) := by decide +kernel
theorem dM_conjugate_134 : decode cM_conjugate 134 = .ok (.invokevirtual 114, 3) := by decide +kernel
theorem dM_conjugate_137 : decode cM_conjugate 137 = .ok (.ireturn, 1) := by decide +kernel
theorem dM_join_0 : decode cM_join 0 = .ok (.iload_n 1, 1) := by decide +kernel
theorem dM_join_1 : decode cM_join 1 = .ok (.invokestatic 101, 3) := by decide +kernel
theorem dM_join_4 : decode cM_join 4 = .ok (.ifCond .eq 17, 3) := by decide +kernel
theorem dM_join_7 : decode cM_join 7 = .ok (.iload_n 2, 1) := by decide +kernel
theorem dM_join_8 : decode cM_join 8 = .ok (.invokestatic 101, 3) := by decide +kernel
theorem dM_join_11 : decode cM_join 11 = .ok (.ifCond .eq 10, 3) := by decide +kernel
theorem dM_join_14 : decode cM_join 14 = .ok (.iload_n 3, 1) := by decide +kernel
theorem dM_join_15 : decode cM_join 15 = .ok (.invokestatic 101, 3) := by decide +kernel
theorem dM_join_18 : decode cM_join 18 = .ok (.ifCond .ne 5, 3) := by decide +kernel
theorem dM_join_21 : decode cM_join 21 = .ok (.iconst (-1), 1) := by decide +kernel
theorem dM_join_22 : decode cM_join 22 = .ok (.ireturn, 1) := by decide +kernel
theorem dM_join_23 : decode cM_join 23 = .ok (.aload_n 0, 1) := by decide +kernel
theorem dM_join_24 : decode cM_join 24 = .ok (.getfield 13, 3) := by decide +kernel
theorem dM_join_27 : decode cM_join 27 = .ok (.iload_n 2, 1) := by decide +kernel
theorem dM_join_28 : decode cM_join 28 = .ok (.iaload, 1) := by decide +kernel
theorem dM_join_29 : decode cM_join 29 = .ok (.aload_n 0, 1) := by decide +kernel
theorem dM_join_30 : decode cM_join 30 = .ok (.getfield 13, 3) := by decide +kernel
theorem dM_join_33 : decode cM_join 33 = .ok (.iload_n 3, 1) := by decide +kernel
theorem dM_join_34 : decode cM_join 34 = .ok (.iaload, 1) := by decide +kernel
theorem dM_join_35 : decode cM_join 35 = .ok (.iadd, 1) := by decide +kernel
theorem dM_join_36 : decode cM_join 36 = .ok (.iconst 1, 1) := by decide +kernel
theorem dM_join_37 : decode cM_join 37 = .ok (.isub, 1) := by decide +kernel
theorem dM_join_38 : decode cM_join 38 = .ok (.istore 4, 2) := by decide +kernel
theorem dM_join_40 : decode cM_join 40 = .ok (.iload 4, 2) := by decide +kernel
theorem dM_join_42 : decode cM_join 42 = .ok (.bipush 64, 2) := by decide +kernel
theorem dM_join_44 : decode cM_join 44 = .ok (.if_icmp .le 6, 3) := by decide +kernel
theorem dM_join_47 : decode cM_join 47 = .ok (.bipush (-2), 2) := by decide +kernel
theorem dM_join_49 : decode cM_join 49 = .ok (.ireturn, 1) := by decide +kernel
theorem dM_join_50 : decode cM_join 50 = .ok (.aload_n 0, 1) := by decide +kernel
theorem dM_join_51 : decode cM_join 51 = .ok (.iload 4, 2) := by decide +kernel
theorem dM_join_53 : decode cM_join 53 = .ok (.invokevirtual 104, 3) := by decide +kernel
theorem dM_join_56 : decode cM_join 56 = .ok (.aload_n 0, 1) := by decide +kernel
theorem dM_join_57 : decode cM_join 57 = .ok (.iload_n 2, 1) := by decide +kernel
theorem dM_join_58 : decode cM_join 58 = .ok (.iconst 0, 1) := by decide +kernel
theorem dM_join_59 : decode cM_join 59 = .ok (.invokevirtual 108, 3) := by decide +kernel
theorem dM_join_62 : decode cM_join 62 = .ok (.aload_n 0, 1) := by decide +kernel
theorem dM_join_63 : decode cM_join 63 = .ok (.iload_n 3, 1) := by decide +kernel
theorem dM_join_64 : decode cM_join 64 = .ok (.aload_n 0, 1) := by decide +kernel
theorem dM_join_65 : decode cM_join 65 = .ok (.getfield 13, 3) := by decide +kernel
theorem dM_join_68 : decode cM_join 68 = .ok (.iload_n 2, 1) := by decide +kernel
theorem dM_join_69 : decode cM_join 69 = .ok (.iaload, 1) := by decide +kernel
theorem dM_join_70 : decode cM_join 70 = .ok (.iconst 1, 1) := by decide +kernel
theorem dM_join_71 : decode cM_join 71 = .ok (.isub, 1) := by decide +kernel
theorem dM_join_72 : decode cM_join 72 = .ok (.invokevirtual 108, 3) := by decide +kernel
theorem dM_join_75 : decode cM_join 75 = .ok (.aload_n 0, 1) := by decide +kernel
theorem dM_join_76 : decode cM_join 76 = .ok (.invokevirtual 111, 3) := by decide +kernel
theorem dM_join_79 : decode cM_join 79 = .ok (.aload_n 0, 1) := by decide +kernel
theorem dM_join_80 : decode cM_join 80 = .ok (.iload_n 1, 1) := by decide +kernel
theorem dM_join_81 : decode cM_join 81 = .ok (.invokevirtual 114, 3) := by decide +kernel
theorem dM_join_84 : decode cM_join 84 = .ok (.ireturn, 1) := by decide +kernel
theorem dM_pair_0 : decode cM_pair 0 = .ok (.iconst 0, 1) := by decide +kernel
theorem dM_pair_1 : decode cM_pair 1 = .ok (.istore_n 3, 1) := by decide +kernel
theorem dM_pair_2 : decode cM_pair 2 = .ok (.iload_n 3, 1) := by decide +kernel
theorem dM_pair_3 : decode cM_pair 3 = .ok (.aload_n 0, 1) := by decide +kernel
theorem dM_pair_4 : decode cM_pair 4 = .ok (.getfield 69, 3) := by decide +kernel
theorem dM_pair_7 : decode cM_pair 7 = .ok (.if_icmp .ge 29, 3) := by decide +kernel
theorem dM_pair_10 : decode cM_pair 10 = .ok (.aload_n 0, 1) := by decide +kernel
theorem dM_pair_11 : decode cM_pair 11 = .ok (.getfield 49, 3) := by decide +kernel
theorem dM_pair_14 : decode cM_pair 14 = .ok (.iload_n 3, 1) := by decide +kernel
theorem dM_pair_15 : decode cM_pair 15 = .ok (.iaload, 1) := by decide +kernel
theorem dM_pair_16 : decode cM_pair 16 = .ok (.iload_n 1, 1) := by decide +kernel
theorem dM_pair_17 : decode cM_pair 17 = .ok (.if_icmp .ne 13, 3) := by decide +kernel
theorem dM_pair_20 : decode cM_pair 20 = .ok (.aload_n 0, 1) := by decide +kernel
theorem dM_pair_21 : decode cM_pair 21 = .ok (.getfield 52, 3) := by decide +kernel
theorem dM_pair_24 : decode cM_pair 24 = .ok (.iload_n 3, 1) := by decide +kernel
theorem dM_pair_25 : decode cM_pair 25 = .ok (.iaload, 1) := by decide +kernel
theorem dM_pair_26 : decode cM_pair 26 = .ok (.iload_n 2, 1) := by decide +kernel
theorem dM_pair_27 : decode cM_pair 27 = .ok (.if_icmp .eq 9, 3) := by decide +kernel
theorem dM_pair_30 : decode cM_pair 30 = .ok (.iinc 3 1, 3) := by decide +kernel
theorem dM_pair_33 : decode cM_pair 33 = .ok (.goto (-31), 3) := by decide +kernel
theorem dM_pair_36 : decode cM_pair 36 = .ok (.iload_n 3, 1) := by decide +kernel
theorem dM_pair_37 : decode cM_pair 37 = .ok (.ireturn, 1) := by decide +kernel
theorem dM_meet_0 : decode cM_meet 0 = .ok (.iload_n 1, 1) := by decide +kernel
theorem dM_meet_1 : decode cM_meet 1 = .ok (.invokestatic 101, 3) := by decide +kernel
theorem dM_meet_4 : decode cM_meet 4 = .ok (.ifCond .eq 17, 3) := by decide +kernel
theorem dM_meet_7 : decode cM_meet 7 = .ok (.iload_n 2, 1) := by decide +kernel
theorem dM_meet_8 : decode cM_meet 8 = .ok (.invokestatic 101, 3) := by decide +kernel
theorem dM_meet_11 : decode cM_meet 11 = .ok (.ifCond .eq 10, 3) := by decide +kernel
theorem dM_meet_14 : decode cM_meet 14 = .ok (.iload_n 3, 1) := by decide +kernel
theorem dM_meet_15 : decode cM_meet 15 = .ok (.invokestatic 101, 3) := by decide +kernel
theorem dM_meet_18 : decode cM_meet 18 = .ok (.ifCond .ne 5, 3) := by decide +kernel
theorem dM_meet_21 : decode cM_meet 21 = .ok (.iconst (-1), 1) := by decide +kernel
theorem dM_meet_22 : decode cM_meet 22 = .ok (.ireturn, 1) := by decide +kernel
theorem dM_meet_23 : decode cM_meet 23 = .ok (.aload_n 0, 1) := by decide +kernel
theorem dM_meet_24 : decode cM_meet 24 = .ok (.iconst 1, 1) := by decide +kernel
theorem dM_meet_25 : decode cM_meet 25 = .ok (.invokevirtual 104, 3) := by decide +kernel
theorem dM_meet_28 : decode cM_meet 28 = .ok (.aload_n 0, 1) := by decide +kernel
theorem dM_meet_29 : decode cM_meet 29 = .ok (.getfield 49, 3) := by decide +kernel
theorem dM_meet_32 : decode cM_meet 32 = .ok (.iconst 0, 1) := by decide +kernel
theorem dM_meet_33 : decode cM_meet 33 = .ok (.iconst 0, 1) := by decide +kernel
theorem dM_meet_34 : decode cM_meet 34 = .ok (.iastore, 1) := by decide +kernel
theorem dM_meet_35 : decode cM_meet 35 = .ok (.aload_n 0, 1) := by decide +kernel
theorem dM_meet_36 : decode cM_meet 36 = .ok (.getfield 52, 3) := by decide +kernel
theorem dM_meet_39 : decode cM_meet 39 = .ok (.iconst 0, 1) := by decide +kernel
theorem dM_meet_40 : decode cM_meet 40 = .ok (.iconst 0, 1) := by decide +kernel
theorem dM_meet_41 : decode cM_meet 41 = .ok (.iastore, 1) := by decide +kernel
theorem dM_meet_42 : decode cM_meet 42 = .ok (.iconst 0, 1) := by decide +kernel
theorem dM_meet_43 : decode cM_meet 43 = .ok (.istore 4, 2) := by decide +kernel
theorem dM_meet_45 : decode cM_meet 45 = .ok (.iload 4, 2) := by decide +kernel
theorem dM_meet_47 : decode cM_meet 47 = .ok (.aload_n 0, 1) := by decide +kernel
theorem dM_meet_48 : decode cM_meet 48 = .ok (.getfield 69, 3) := by decide +kernel
theorem dM_meet_51 : decode cM_meet 51 = .ok (.if_icmp .ge 151, 3) := by decide +kernel
theorem dM_meet_54 : decode cM_meet 54 = .ok (.iconst 0, 1) := by decide +kernel
theorem dM_meet_55 : decode cM_meet 55 = .ok (.istore 5, 2) := by decide +kernel
theorem dM_meet_57 : decode cM_meet 57 = .ok (.iload 5, 2) := by decide +kernel
theorem dM_meet_59 : decode cM_meet 59 = .ok (.bipush 6, 2) := by decide +kernel
theorem dM_meet_61 : decode cM_meet 61 = .ok (.if_icmp .ge 135, 3) := by decide +kernel
theorem dM_meet_64 : decode cM_meet 64 = .ok (.aload_n 0, 1) := by decide +kernel
theorem dM_meet_65 : decode cM_meet 65 = .ok (.iload_n 2, 1) := by decide +kernel
theorem dM_meet_66 : decode cM_meet 66 = .ok (.aload_n 0, 1) := by decide +kernel
theorem dM_meet_67 : decode cM_meet 67 = .ok (.getfield 49, 3) := by decide +kernel
theorem dM_meet_70 : decode cM_meet 70 = .ok (.iload 4, 2) := by decide +kernel
theorem dM_meet_72 : decode cM_meet 72 = .ok (.iaload, 1) := by decide +kernel
theorem dM_meet_73 : decode cM_meet 73 = .ok (.iload 5, 2) := by decide +kernel
theorem dM_meet_75 : decode cM_meet 75 = .ok (.invokevirtual 82, 3) := by decide +kernel
theorem dM_meet_78 : decode cM_meet 78 = .ok (.istore 6, 2) := by decide +kernel
theorem dM_meet_80 : decode cM_meet 80 = .ok (.aload_n 0, 1) := by decide +kernel
theorem dM_meet_81 : decode cM_meet 81 = .ok (.iload_n 3, 1) := by decide +kernel
theorem dM_meet_82 : decode cM_meet 82 = .ok (.aload_n 0, 1) := by decide +kernel
theorem dM_meet_83 : decode cM_meet 83 = .ok (.getfield 52, 3) := by decide +kernel
theorem dM_meet_86 : decode cM_meet 86 = .ok (.iload 4, 2) := by decide +kernel
theorem dM_meet_88 : decode cM_meet 88 = .ok (.iaload, 1) := by decide +kernel
theorem dM_meet_89 : decode cM_meet 89 = .ok (.iload 5, 2) := by decide +kernel
theorem dM_meet_91 : decode cM_meet 91 = .ok (.invokevirtual 82, 3) := by decide +kernel
theorem dM_meet_94 : decode cM_meet 94 = .ok (.istore 7, 2) := by decide +kernel
theorem dM_meet_96 : decode cM_meet 96 = .ok (.iload 6, 2) := by decide +kernel
theorem dM_meet_98 : decode cM_meet 98 = .ok (.ifCond .lt 92, 3) := by decide +kernel
theorem dM_meet_101 : decode cM_meet 101 = .ok (.iload 7, 2) := by decide +kernel
theorem dM_meet_103 : decode cM_meet 103 = .ok (.ifCond .lt 87, 3) := by decide +kernel
theorem dM_meet_106 : decode cM_meet 106 = .ok (.aload_n 0, 1) := by decide +kernel
theorem dM_meet_107 : decode cM_meet 107 = .ok (.iload 6, 2) := by decide +kernel
theorem dM_meet_109 : decode cM_meet 109 = .ok (.iload 7, 2) := by decide +kernel
theorem dM_meet_111 : decode cM_meet 111 = .ok (.invokevirtual 120, 3) := by decide +kernel
theorem dM_meet_114 : decode cM_meet 114 = .ok (.istore 8, 2) := by decide +kernel
theorem dM_meet_116 : decode cM_meet 116 = .ok (.iload 8, 2) := by decide +kernel
theorem dM_meet_118 : decode cM_meet 118 = .ok (.bipush 64, 2) := by decide +kernel
theorem dM_meet_120 : decode cM_meet 120 = .ok (.if_icmp .ne 6, 3) := by decide +kernel
theorem dM_meet_123 : decode cM_meet 123 = .ok (.bipush (-2), 2) := by decide +kernel
theorem dM_meet_125 : decode cM_meet 125 = .ok (.ireturn, 1) := by decide +kernel
theorem dM_meet_126 : decode cM_meet 126 = .ok (.aload_n 0, 1) := by decide +kernel
theorem dM_meet_127 : decode cM_meet 127 = .ok (.getfield 49, 3) := by decide +kernel
theorem dM_meet_130 : decode cM_meet 130 = .ok (.iload 8, 2) := by decide +kernel
theorem dM_meet_132 : decode cM_meet 132 = .ok (.iload 6, 2) := by decide +kernel
theorem dM_meet_134 : decode cM_meet 134 = .ok (.iastore, 1) := by decide +kernel
theorem dM_meet_135 : decode cM_meet 135 = .ok (.aload_n 0, 1) := by decide +kernel
theorem dM_meet_136 : decode cM_meet 136 = .ok (.getfield 52, 3) := by decide +kernel
theorem dM_meet_139 : decode cM_meet 139 = .ok (.iload 8, 2) := by decide +kernel
theorem dM_meet_141 : decode cM_meet 141 = .ok (.iload 7, 2) := by decide +kernel
theorem dM_meet_143 : decode cM_meet 143 = .ok (.iastore, 1) := by decide +kernel
theorem dM_meet_144 : decode cM_meet 144 = .ok (.aload_n 0, 1) := by decide +kernel
theorem dM_meet_145 : decode cM_meet 145 = .ok (.iload 8, 2) := by decide +kernel
theorem dM_meet_147 : decode cM_meet 147 = .ok (.aload_n 0, 1) := by decide +kernel
theorem dM_meet_148 : decode cM_meet 148 = .ok (.getfield 69, 3) := by decide +kernel
theorem dM_meet_151 : decode cM_meet 151 = .ok (.if_icmp .ne 12, 3) := by decide +kernel
theorem dM_meet_154 : decode cM_meet 154 = .ok (.aload_n 0, 1) := by decide +kernel
theorem dM_meet_155 : decode cM_meet 155 = .ok (.getfield 69, 3) := by decide +kernel
theorem dM_meet_158 : decode cM_meet 158 = .ok (.iconst 1, 1) := by decide +kernel
theorem dM_meet_159 : decode cM_meet 159 = .ok (.iadd, 1) := by decide +kernel
theorem dM_meet_160 : decode cM_meet 160 = .ok (.goto 7, 3) := by decide +kernel
theorem dM_meet_163 : decode cM_meet 163 = .ok (.aload_n 0, 1) := by decide +kernel
theorem dM_meet_164 : decode cM_meet 164 = .ok (.getfield 69, 3) := by decide +kernel
theorem dM_meet_167 : decode cM_meet 167 = .ok (.putfield 69, 3) := by decide +kernel
theorem dM_meet_170 : decode cM_meet 170 = .ok (.iload 5, 2) := by decide +kernel
theorem dM_meet_172 : decode cM_meet 172 = .ok (.iconst 2, 1) := by decide +kernel
theorem dM_meet_173 : decode cM_meet 173 = .ok (.irem, 1) := by decide +kernel
theorem dM_meet_174 : decode cM_meet 174 = .ok (.ifCond .ne 16, 3) := by decide +kernel
theorem dM_meet_177 : decode cM_meet 177 = .ok (.aload_n 0, 1) := by decide +kernel
theorem dM_meet_178 : decode cM_meet 178 = .ok (.iload 4, 2) := by decide +kernel
theorem dM_meet_180 : decode cM_meet 180 = .ok (.iload 5, 2) := by decide +kernel
theorem dM_meet_182 : decode cM_meet 182 = .ok (.invokestatic 124, 3) := by decide +kernel
theorem dM_meet_185 : decode cM_meet 185 = .ok (.iload 8, 2) := by decide +kernel
theorem dM_meet_187 : decode cM_meet 187 = .ok (.invokevirtual 86, 3) := by decide +kernel
theorem dM_meet_190 : decode cM_meet 190 = .ok (.iinc 5 1, 3) := by decide +kernel
theorem dM_meet_193 : decode cM_meet 193 = .ok (.goto (-136), 3) := by decide +kernel
theorem dM_meet_196 : decode cM_meet 196 = .ok (.iinc 4 1, 3) := by decide +kernel
theorem dM_meet_199 : decode cM_meet 199 = .ok (.goto (-154), 3) := by decide +kernel
theorem dM_meet_202 : decode cM_meet 202 = .ok (.aload_n 0, 1) := by decide +kernel
theorem dM_meet_203 : decode cM_meet 203 = .ok (.invokevirtual 111, 3) := by decide +kernel
theorem dM_meet_206 : decode cM_meet 206 = .ok (.aload_n 0, 1) := by decide +kernel
theorem dM_meet_207 : decode cM_meet 207 = .ok (.invokevirtual 117, 3) := by decide +kernel
theorem dM_meet_210 : decode cM_meet 210 = .ok (.aload_n 0, 1) := by decide +kernel
theorem dM_meet_211 : decode cM_meet 211 = .ok (.iload_n 1, 1) := by decide +kernel
theorem dM_meet_212 : decode cM_meet 212 = .ok (.invokevirtual 114, 3) := by decide +kernel
theorem dM_meet_215 : decode cM_meet 215 = .ok (.ireturn, 1) := by decide +kernel
theorem dM_walk_0 : decode cM_walk 0 = .ok (.iconst 0, 1) := by decide +kernel
theorem dM_walk_1 : decode cM_walk 1 = .ok (.istore_n 2, 1) := by decide +kernel
theorem dM_walk_2 : decode cM_walk 2 = .ok (.iconst 0, 1) := by decide +kernel
theorem dM_walk_3 : decode cM_walk 3 = .ok (.istore_n 3, 1) := by decide +kernel
theorem dM_walk_4 : decode cM_walk 4 = .ok (.iload_n 3, 1) := by decide +kernel
theorem dM_walk_5 : decode cM_walk 5 = .ok (.aload_n 0, 1) := by decide +kernel
theorem dM_walk_6 : decode cM_walk 6 = .ok (.getfield 66, 3) := by decide +kernel
theorem dM_walk_9 : decode cM_walk 9 = .ok (.if_icmp .ge 29, 3) := by decide +kernel
theorem dM_walk_12 : decode cM_walk 12 = .ok (.iload_n 2, 1) := by decide +kernel
theorem dM_walk_13 : decode cM_walk 13 = .ok (.ifCond .lt 25, 3) := by decide +kernel
theorem dM_walk_16 : decode cM_walk 16 = .ok (.aload_n 0, 1) := by decide +kernel
theorem dM_walk_17 : decode cM_walk 17 = .ok (.iload_n 1, 1) := by decide +kernel
theorem dM_walk_18 : decode cM_walk 18 = .ok (.iload_n 2, 1) := by decide +kernel
theorem dM_walk_19 : decode cM_walk 19 = .ok (.aload_n 0, 1) := by decide +kernel
theorem dM_walk_20 : decode cM_walk 20 = .ok (.getfield 7, 3) := by decide +kernel
theorem dM_walk_23 : decode cM_walk 23 = .ok (.iload_n 3, 1) := by decide +kernel
theorem dM_walk_24 : decode cM_walk 24 = .ok (.iaload, 1) := by decide +kernel
theorem dM_walk_25 : decode cM_walk 25 = .ok (.invokestatic 78, 3) := by decide +kernel
theorem dM_walk_28 : decode cM_walk 28 = .ok (.invokevirtual 82, 3) := by decide +kernel
theorem dM_walk_31 : decode cM_walk 31 = .ok (.istore_n 2, 1) := by decide +kernel
theorem dM_walk_32 : decode cM_walk 32 = .ok (.iinc 3 1, 3) := by decide +kernel
theorem dM_walk_35 : decode cM_walk 35 = .ok (.goto (-31), 3) := by decide +kernel
theorem dM_walk_38 : decode cM_walk 38 = .ok (.iload_n 2, 1) := by decide +kernel
theorem dM_walk_39 : decode cM_walk 39 = .ok (.ireturn, 1) := by decide +kernel
theorem dM_trace_0 : decode cM_trace 0 = .ok (.iload_n 1, 1) := by decide +kernel
theorem dM_trace_1 : decode cM_trace 1 = .ok (.invokestatic 101, 3) := by decide +kernel
theorem dM_trace_4 : decode cM_trace 4 = .ok (.ifCond .eq 11, 3) := by decide +kernel
theorem dM_trace_7 : decode cM_trace 7 = .ok (.aload_n 0, 1) := by decide +kernel
theorem dM_trace_8 : decode cM_trace 8 = .ok (.iload_n 1, 1) := by decide +kernel
theorem dM_trace_9 : decode cM_trace 9 = .ok (.invokevirtual 127, 3) := by decide +kernel
theorem dM_trace_12 : decode cM_trace 12 = .ok (.goto 4, 3) := by decide +kernel
theorem dM_trace_15 : decode cM_trace 15 = .ok (.iconst (-1), 1) := by decide +kernel
theorem dM_trace_16 : decode cM_trace 16 = .ok (.ireturn, 1) := by decide +kernel
theorem dM_member_0 : decode cM_member 0 = .ok (.iload_n 1, 1) := by decide +kernel
theorem dM_member_1 : decode cM_member 1 = .ok (.invokestatic 101, 3) := by decide +kernel
theorem dM_member_4 : decode cM_member 4 = .ok (.ifCond .eq 15, 3) := by decide +kernel
theorem dM_member_7 : decode cM_member 7 = .ok (.aload_n 0, 1) := by decide +kernel
theorem dM_member_8 : decode cM_member 8 = .ok (.iload_n 1, 1) := by decide +kernel
theorem dM_member_9 : decode cM_member 9 = .ok (.invokevirtual 127, 3) := by decide +kernel
theorem dM_member_12 : decode cM_member 12 = .ok (.ifCond .ne 7, 3) := by decide +kernel
theorem dM_member_15 : decode cM_member 15 = .ok (.iconst 1, 1) := by decide +kernel
theorem dM_member_16 : decode cM_member 16 = .ok (.goto 4, 3) := by decide +kernel
theorem dM_member_19 : decode cM_member 19 = .ok (.iconst 0, 1) := by decide +kernel
theorem dM_member_20 : decode cM_member 20 = .ok (.ireturn, 1) := by decide +kernel
theorem dM_isTree_0 : decode cM_isTree 0 = .ok (.iload 4, 2) := by decide +kernel
theorem dM_isTree_2 : decode cM_isTree 2 = .ok (.ifCond .le 39, 3) := by decide +kernel
theorem dM_isTree_5 : decode cM_isTree 5 = .ok (.aload_n 0, 1) := by decide +kernel
theorem dM_isTree_6 : decode cM_isTree 6 = .ok (.getfield 19, 3) := by decide +kernel
theorem dM_isTree_9 : decode cM_isTree 9 = .ok (.bipush 64, 2) := by decide +kernel
theorem dM_isTree_11 : decode cM_isTree 11 = .ok (.iload_n 1, 1) := by decide +kernel
theorem dM_isTree_12 : decode cM_isTree 12 = .ok (.imul, 1) := by decide +kernel
theorem dM_isTree_13 : decode cM_isTree 13 = .ok (.iload 4, 2) := by decide +kernel
theorem dM_isTree_15 : decode cM_isTree 15 = .ok (.iadd, 1) := by decide +kernel
theorem dM_isTree_16 : decode cM_isTree 16 = .ok (.iaload, 1) := by decide +kernel
theorem dM_isTree_17 : decode cM_isTree 17 = .ok (.iload_n 2, 1) := by decide +kernel
theorem dM_isTree_18 : decode cM_isTree 18 = .ok (.if_icmp .ne 23, 3) := by decide +kernel
theorem dM_isTree_21 : decode cM_isTree 21 = .ok (.aload_n 0, 1) := by decide +kernel
theorem dM_isTree_22 : decode cM_isTree 22 = .ok (.getfield 22, 3) := by decide +kernel
theorem dM_isTree_25 : decode cM_isTree 25 = .ok (.bipush 64, 2) := by decide +kernel
theorem dM_isTree_27 : decode cM_isTree 27 = .ok (.iload_n 1, 1) := by decide +kernel
theorem dM_isTree_28 : decode cM_isTree 28 = .ok (.imul, 1) := by decide +kernel
theorem dM_isTree_29 : decode cM_isTree 29 = .ok (.iload 4, 2) := by decide +kernel
theorem dM_isTree_31 : decode cM_isTree 31 = .ok (.iadd, 1) := by decide +kernel
theorem dM_isTree_32 : decode cM_isTree 32 = .ok (.iaload, 1) := by decide +kernel
theorem dM_isTree_33 : decode cM_isTree 33 = .ok (.iload_n 3, 1) := by decide +kernel
theorem dM_isTree_34 : decode cM_isTree 34 = .ok (.if_icmp .ne 7, 3) := by decide +kernel
theorem dM_isTree_37 : decode cM_isTree 37 = .ok (.iconst 1, 1) := by decide +kernel
theorem dM_isTree_38 : decode cM_isTree 38 = .ok (.goto 4, 3) := by decide +kernel
theorem dM_isTree_41 : decode cM_isTree 41 = .ok (.iconst 0, 1) := by decide +kernel
theorem dM_isTree_42 : decode cM_isTree 42 = .ok (.istore 5, 2) := by decide +kernel
theorem dM_isTree_44 : decode cM_isTree 44 = .ok (.iload 5, 2) := by decide +kernel
theorem dM_isTree_46 : decode cM_isTree 46 = .ok (.ifCond .ne 40, 3) := by decide +kernel
theorem dM_isTree_49 : decode cM_isTree 49 = .ok (.iload_n 2, 1) := by decide +kernel
theorem dM_isTree_50 : decode cM_isTree 50 = .ok (.ifCond .le 40, 3) := by decide +kernel
theorem dM_isTree_53 : decode cM_isTree 53 = .ok (.aload_n 0, 1) := by decide +kernel
theorem dM_isTree_54 : decode cM_isTree 54 = .ok (.getfield 19, 3) := by decide +kernel
theorem dM_isTree_57 : decode cM_isTree 57 = .ok (.bipush 64, 2) := by decide +kernel
theorem dM_isTree_59 : decode cM_isTree 59 = .ok (.iload_n 1, 1) := by decide +kernel
theorem dM_isTree_60 : decode cM_isTree 60 = .ok (.imul, 1) := by decide +kernel
theorem dM_isTree_61 : decode cM_isTree 61 = .ok (.iload_n 2, 1) := by decide +kernel
theorem dM_isTree_62 : decode cM_isTree 62 = .ok (.iadd, 1) := by decide +kernel
theorem dM_isTree_63 : decode cM_isTree 63 = .ok (.iaload, 1) := by decide +kernel
theorem dM_isTree_64 : decode cM_isTree 64 = .ok (.iload 4, 2) := by decide +kernel
theorem dM_isTree_66 : decode cM_isTree 66 = .ok (.if_icmp .ne 24, 3) := by decide +kernel
theorem dM_isTree_69 : decode cM_isTree 69 = .ok (.aload_n 0, 1) := by decide +kernel
theorem dM_isTree_70 : decode cM_isTree 70 = .ok (.getfield 22, 3) := by decide +kernel
theorem dM_isTree_73 : decode cM_isTree 73 = .ok (.bipush 64, 2) := by decide +kernel
theorem dM_isTree_75 : decode cM_isTree 75 = .ok (.iload_n 1, 1) := by decide +kernel
theorem dM_isTree_76 : decode cM_isTree 76 = .ok (.imul, 1) := by decide +kernel
theorem dM_isTree_77 : decode cM_isTree 77 = .ok (.iload_n 2, 1) := by decide +kernel
theorem dM_isTree_78 : decode cM_isTree 78 = .ok (.iadd, 1) := by decide +kernel
theorem dM_isTree_79 : decode cM_isTree 79 = .ok (.iaload, 1) := by decide +kernel
theorem dM_isTree_80 : decode cM_isTree 80 = .ok (.iload_n 3, 1) := by decide +kernel
theorem dM_isTree_81 : decode cM_isTree 81 = .ok (.iconst 1, 1) := by decide +kernel
theorem dM_isTree_82 : decode cM_isTree 82 = .ok (.ixor, 1) := by decide +kernel
theorem dM_isTree_83 : decode cM_isTree 83 = .ok (.if_icmp .ne 7, 3) := by decide +kernel
theorem dM_isTree_86 : decode cM_isTree 86 = .ok (.iconst 1, 1) := by decide +kernel
theorem dM_isTree_87 : decode cM_isTree 87 = .ok (.goto 4, 3) := by decide +kernel
theorem dM_isTree_90 : decode cM_isTree 90 = .ok (.iconst 0, 1) := by decide +kernel
theorem dM_isTree_91 : decode cM_isTree 91 = .ok (.ireturn, 1) := by decide +kernel
theorem dM_elementsBefore_0 : decode cM_elementsBefore 0 = .ok (.iconst 0, 1) := by decide +kernel
theorem dM_elementsBefore_1 : decode cM_elementsBefore 1 = .ok (.istore 4, 2) := by decide +kernel
theorem dM_elementsBefore_3 : decode cM_elementsBefore 3 = .ok (.iconst 0, 1) := by decide +kernel
theorem dM_elementsBefore_4 : decode cM_elementsBefore 4 = .ok (.istore 5, 2) := by decide +kernel
theorem dM_elementsBefore_6 : decode cM_elementsBefore 6 = .ok (.iload 5, 2) := by decide +kernel
theorem dM_elementsBefore_8 : decode cM_elementsBefore 8 = .ok (.iload_n 2, 1) := by decide +kernel
theorem dM_elementsBefore_9 : decode cM_elementsBefore 9 = .ok (.if_icmp .gt 86, 3) := by decide +kernel
theorem dM_elementsBefore_12 : decode cM_elementsBefore 12 = .ok (.iconst 1, 1) := by decide +kernel
theorem dM_elementsBefore_13 : decode cM_elementsBefore 13 = .ok (.istore 6, 2) := by decide +kernel
theorem dM_elementsBefore_15 : decode cM_elementsBefore 15 = .ok (.iload 6, 2) := by decide +kernel
theorem dM_elementsBefore_17 : decode cM_elementsBefore 17 = .ok (.aload_n 0, 1) := by decide +kernel
theorem dM_elementsBefore_18 : decode cM_elementsBefore 18 = .ok (.getfield 58, 3) := by decide +kernel
theorem dM_elementsBefore_21 : decode cM_elementsBefore 21 = .ok (.if_icmp .gt 68, 3) := by decide +kernel
theorem dM_elementsBefore_24 : decode cM_elementsBefore 24 = .ok (.iload 5, 2) := by decide +kernel
theorem dM_elementsBefore_26 : decode cM_elementsBefore 26 = .ok (.iload_n 2, 1) := by decide +kernel
theorem dM_elementsBefore_27 : decode cM_elementsBefore 27 = .ok (.if_icmp .lt 9, 3) := by decide +kernel
theorem dM_elementsBefore_30 : decode cM_elementsBefore 30 = .ok (.iload 6, 2) := by decide +kernel
theorem dM_elementsBefore_32 : decode cM_elementsBefore 32 = .ok (.iload_n 3, 1) := by decide +kernel
theorem dM_elementsBefore_33 : decode cM_elementsBefore 33 = .ok (.if_icmp .ge 56, 3) := by decide +kernel
theorem dM_elementsBefore_36 : decode cM_elementsBefore 36 = .ok (.aload_n 0, 1) := by decide +kernel
theorem dM_elementsBefore_37 : decode cM_elementsBefore 37 = .ok (.iload_n 1, 1) := by decide +kernel
theorem dM_elementsBefore_38 : decode cM_elementsBefore 38 = .ok (.iload 5, 2) := by decide +kernel
theorem dM_elementsBefore_40 : decode cM_elementsBefore 40 = .ok (.iload 6, 2) := by decide +kernel
theorem dM_elementsBefore_42 : decode cM_elementsBefore 42 = .ok (.invokestatic 78, 3) := by decide +kernel
theorem dM_elementsBefore_45 : decode cM_elementsBefore 45 = .ok (.invokevirtual 82, 3) := by decide +kernel
theorem dM_elementsBefore_48 : decode cM_elementsBefore 48 = .ok (.istore 7, 2) := by decide +kernel
theorem dM_elementsBefore_50 : decode cM_elementsBefore 50 = .ok (.iload 7, 2) := by decide +kernel
theorem dM_elementsBefore_52 : decode cM_elementsBefore 52 = .ok (.ifCond .lt 27, 3) := by decide +kernel
theorem dM_elementsBefore_55 : decode cM_elementsBefore 55 = .ok (.aload_n 0, 1) := by decide +kernel
theorem dM_elementsBefore_56 : decode cM_elementsBefore 56 = .ok (.iload_n 1, 1) := by decide +kernel
theorem dM_elementsBefore_57 : decode cM_elementsBefore 57 = .ok (.iload 5, 2) := by decide +kernel
theorem dM_elementsBefore_59 : decode cM_elementsBefore 59 = .ok (.iload 6, 2) := by decide +kernel
theorem dM_elementsBefore_61 : decode cM_elementsBefore 61 = .ok (.invokestatic 78, 3) := by decide +kernel
theorem dM_elementsBefore_64 : decode cM_elementsBefore 64 = .ok (.iload 7, 2) := by decide +kernel
theorem dM_elementsBefore_66 : decode cM_elementsBefore 66 = .ok (.invokevirtual 130, 3) := by decide +kernel
theorem dM_elementsBefore_69 : decode cM_elementsBefore 69 = .ok (.ifCond .ne 10, 3) := by decide +kernel
theorem dM_elementsBefore_72 : decode cM_elementsBefore 72 = .ok (.iload 4, 2) := by decide +kernel
theorem dM_elementsBefore_74 : decode cM_elementsBefore 74 = .ok (.iconst 1, 1) := by decide +kernel
theorem dM_elementsBefore_75 : decode cM_elementsBefore 75 = .ok (.iadd, 1) := by decide +kernel
theorem dM_elementsBefore_76 : decode cM_elementsBefore 76 = .ok (.goto 5, 3) := by decide +kernel
theorem dM_elementsBefore_79 : decode cM_elementsBefore 79 = .ok (.iload 4, 2) := by decide +kernel
theorem dM_elementsBefore_81 : decode cM_elementsBefore 81 = .ok (.istore 4, 2) := by decide +kernel
theorem dM_elementsBefore_83 : decode cM_elementsBefore 83 = .ok (.iinc 6 1, 3) := by decide +kernel
theorem dM_elementsBefore_86 : decode cM_elementsBefore 86 = .ok (.goto (-71), 3) := by decide +kernel
theorem dM_elementsBefore_89 : decode cM_elementsBefore 89 = .ok (.iinc 5 1, 3) := by decide +kernel
theorem dM_elementsBefore_92 : decode cM_elementsBefore 92 = .ok (.goto (-86), 3) := by decide +kernel
theorem dM_elementsBefore_95 : decode cM_elementsBefore 95 = .ok (.iload 4, 2) := by decide +kernel
theorem dM_elementsBefore_97 : decode cM_elementsBefore 97 = .ok (.ireturn, 1) := by decide +kernel
theorem dM_elements_0 : decode cM_elements 0 = .ok (.aload_n 0, 1) := by decide +kernel
theorem dM_elements_1 : decode cM_elements 1 = .ok (.iload_n 1, 1) := by decide +kernel
theorem dM_elements_2 : decode cM_elements 2 = .ok (.aload_n 0, 1) := by decide +kernel
theorem dM_elements_3 : decode cM_elements 3 = .ok (.getfield 13, 3) := by decide +kernel
theorem dM_elements_6 : decode cM_elements 6 = .ok (.iload_n 1, 1) := by decide +kernel
theorem dM_elements_7 : decode cM_elements 7 = .ok (.iaload, 1) := by decide +kernel
theorem dM_elements_8 : decode cM_elements 8 = .ok (.iconst 1, 1) := by decide +kernel
theorem dM_elements_9 : decode cM_elements 9 = .ok (.isub, 1) := by decide +kernel
theorem dM_elements_10 : decode cM_elements 10 = .ok (.aload_n 0, 1) := by decide +kernel
theorem dM_elements_11 : decode cM_elements 11 = .ok (.getfield 58, 3) := by decide +kernel
theorem dM_elements_14 : decode cM_elements 14 = .ok (.iconst 1, 1) := by decide +kernel
theorem dM_elements_15 : decode cM_elements 15 = .ok (.iadd, 1) := by decide +kernel
theorem dM_elements_16 : decode cM_elements 16 = .ok (.invokevirtual 134, 3) := by decide +kernel
theorem dM_elements_19 : decode cM_elements 19 = .ok (.ireturn, 1) := by decide +kernel
theorem dM_find_0 : decode cM_find 0 = .ok (.iconst 0, 1) := by decide +kernel
theorem dM_find_1 : decode cM_find 1 = .ok (.istore_n 3, 1) := by decide +kernel
theorem dM_find_2 : decode cM_find 2 = .ok (.iconst 0, 1) := by decide +kernel
theorem dM_find_3 : decode cM_find 3 = .ok (.istore 4, 2) := by decide +kernel
theorem dM_find_5 : decode cM_find 5 = .ok (.iload 4, 2) := by decide +kernel
theorem dM_find_7 : decode cM_find 7 = .ok (.aload_n 0, 1) := by decide +kernel
theorem dM_find_8 : decode cM_find 8 = .ok (.getfield 13, 3) := by decide +kernel
theorem dM_find_11 : decode cM_find 11 = .ok (.iload_n 1, 1) := by decide +kernel
theorem dM_find_12 : decode cM_find 12 = .ok (.iaload, 1) := by decide +kernel
theorem dM_find_13 : decode cM_find 13 = .ok (.if_icmp .ge 91, 3) := by decide +kernel
theorem dM_find_16 : decode cM_find 16 = .ok (.iconst 1, 1) := by decide +kernel
theorem dM_find_17 : decode cM_find 17 = .ok (.istore 5, 2) := by decide +kernel
theorem dM_find_19 : decode cM_find 19 = .ok (.iload 5, 2) := by decide +kernel
theorem dM_find_21 : decode cM_find 21 = .ok (.aload_n 0, 1) := by decide +kernel
theorem dM_find_22 : decode cM_find 22 = .ok (.getfield 58, 3) := by decide +kernel
theorem dM_find_25 : decode cM_find 25 = .ok (.if_icmp .gt 73, 3) := by decide +kernel
theorem dM_find_28 : decode cM_find 28 = .ok (.aload_n 0, 1) := by decide +kernel
theorem dM_find_29 : decode cM_find 29 = .ok (.iload_n 1, 1) := by decide +kernel
theorem dM_find_30 : decode cM_find 30 = .ok (.iload 4, 2) := by decide +kernel
theorem dM_find_32 : decode cM_find 32 = .ok (.iload 5, 2) := by decide +kernel
theorem dM_find_34 : decode cM_find 34 = .ok (.invokestatic 78, 3) := by decide +kernel
theorem dM_find_37 : decode cM_find 37 = .ok (.invokevirtual 82, 3) := by decide +kernel
theorem dM_find_40 : decode cM_find 40 = .ok (.istore 6, 2) := by decide +kernel
theorem dM_find_42 : decode cM_find 42 = .ok (.iload 6, 2) := by decide +kernel
theorem dM_find_44 : decode cM_find 44 = .ok (.ifCond .lt 48, 3) := by decide +kernel
theorem dM_find_47 : decode cM_find 47 = .ok (.aload_n 0, 1) := by decide +kernel
theorem dM_find_48 : decode cM_find 48 = .ok (.iload_n 1, 1) := by decide +kernel
theorem dM_find_49 : decode cM_find 49 = .ok (.iload 4, 2) := by decide +kernel
theorem dM_find_51 : decode cM_find 51 = .ok (.iload 5, 2) := by decide +kernel
theorem dM_find_53 : decode cM_find 53 = .ok (.invokestatic 78, 3) := by decide +kernel
theorem dM_find_56 : decode cM_find 56 = .ok (.iload 6, 2) := by decide +kernel
theorem dM_find_58 : decode cM_find 58 = .ok (.invokevirtual 130, 3) := by decide +kernel
theorem dM_find_61 : decode cM_find 61 = .ok (.ifCond .ne 31, 3) := by decide +kernel
theorem dM_find_64 : decode cM_find 64 = .ok (.iload_n 3, 1) := by decide +kernel
theorem dM_find_65 : decode cM_find 65 = .ok (.iload_n 2, 1) := by decide +kernel
theorem dM_find_66 : decode cM_find 66 = .ok (.if_icmp .ne 23, 3) := by decide +kernel
theorem dM_find_69 : decode cM_find 69 = .ok (.aload_n 0, 1) := by decide +kernel
theorem dM_find_70 : decode cM_find 70 = .ok (.iload 4, 2) := by decide +kernel
theorem dM_find_72 : decode cM_find 72 = .ok (.putfield 137, 3) := by decide +kernel
theorem dM_find_75 : decode cM_find 75 = .ok (.aload_n 0, 1) := by decide +kernel
theorem dM_find_76 : decode cM_find 76 = .ok (.iload 5, 2) := by decide +kernel
theorem dM_find_78 : decode cM_find 78 = .ok (.putfield 140, 3) := by decide +kernel
theorem dM_find_81 : decode cM_find 81 = .ok (.aload_n 0, 1) := by decide +kernel
theorem dM_find_82 : decode cM_find 82 = .ok (.iload 6, 2) := by decide +kernel
theorem dM_find_84 : decode cM_find 84 = .ok (.putfield 143, 3) := by decide +kernel
theorem dM_find_87 : decode cM_find 87 = .ok (.iconst 1, 1) := by decide +kernel
theorem dM_find_88 : decode cM_find 88 = .ok (.ireturn, 1) := by decide +kernel
theorem dM_find_89 : decode cM_find 89 = .ok (.iinc 3 1, 3) := by decide +kernel
theorem dM_find_92 : decode cM_find 92 = .ok (.iinc 5 1, 3) := by decide +kernel
theorem dM_find_95 : decode cM_find 95 = .ok (.goto (-76), 3) := by decide +kernel
theorem dM_find_98 : decode cM_find 98 = .ok (.iinc 4 1, 3) := by decide +kernel
theorem dM_find_101 : decode cM_find 101 = .ok (.goto (-96), 3) := by decide +kernel
theorem dM_find_104 : decode cM_find 104 = .ok (.iconst 0, 1) := by decide +kernel
theorem dM_find_105 : decode cM_find 105 = .ok (.ireturn, 1) := by decide +kernel
theorem dM_put_0 : decode cM_put 0 = .ok (.aload_n 0, 1) := by decide +kernel
theorem dM_put_1 : decode cM_put 1 = .ok (.getfield 146, 3) := by decide +kernel
theorem dM_put_4 : decode cM_put 4 = .ok (.ifCond .le 32, 3) := by decide +kernel
theorem dM_put_7 : decode cM_put 7 = .ok (.aload_n 0, 1) := by decide +kernel
theorem dM_put_8 : decode cM_put 8 = .ok (.getfield 55, 3) := by decide +kernel
theorem dM_put_11 : decode cM_put 11 = .ok (.aload_n 0, 1) := by decide +kernel
theorem dM_put_12 : decode cM_put 12 = .ok (.getfield 146, 3) := by decide +kernel
theorem dM_put_15 : decode cM_put 15 = .ok (.iconst 1, 1) := by decide +kernel
theorem dM_put_16 : decode cM_put 16 = .ok (.isub, 1) := by decide +kernel
theorem dM_put_17 : decode cM_put 17 = .ok (.iaload, 1) := by decide +kernel
theorem dM_put_18 : decode cM_put 18 = .ok (.iload_n 1, 1) := by decide +kernel
theorem dM_put_19 : decode cM_put 19 = .ok (.ineg, 1) := by decide +kernel
theorem dM_put_20 : decode cM_put 20 = .ok (.if_icmp .ne 16, 3) := by decide +kernel
theorem dM_put_23 : decode cM_put 23 = .ok (.aload_n 0, 1) := by decide +kernel
theorem dM_put_24 : decode cM_put 24 = .ok (.dup, 1) := by decide +kernel
theorem dM_put_25 : decode cM_put 25 = .ok (.getfield 146, 3) := by decide +kernel
theorem dM_put_28 : decode cM_put 28 = .ok (.iconst 1, 1) := by decide +kernel
theorem dM_put_29 : decode cM_put 29 = .ok (.isub, 1) := by decide +kernel
theorem dM_put_30 : decode cM_put 30 = .ok (.putfield 146, 3) := by decide +kernel
theorem dM_put_33 : decode cM_put 33 = .ok (.goto 23, 3) := by decide +kernel
theorem dM_put_36 : decode cM_put 36 = .ok (.aload_n 0, 1) := by decide +kernel
theorem dM_put_37 : decode cM_put 37 = .ok (.getfield 55, 3) := by decide +kernel
theorem dM_put_40 : decode cM_put 40 = .ok (.aload_n 0, 1) := by decide +kernel
theorem dM_put_41 : decode cM_put 41 = .ok (.getfield 146, 3) := by decide +kernel
theorem dM_put_44 : decode cM_put 44 = .ok (.iload_n 1, 1) := by decide +kernel
theorem dM_put_45 : decode cM_put 45 = .ok (.iastore, 1) := by decide +kernel
theorem dM_put_46 : decode cM_put 46 = .ok (.aload_n 0, 1) := by decide +kernel
theorem dM_put_47 : decode cM_put 47 = .ok (.dup, 1) := by decide +kernel
end
section
theorem dM_put_48 : decode cM_put 48 = .ok (.getfield 146, 3) := by decide +kernel
theorem dM_put_51 : decode cM_put 51 = .ok (.iconst 1, 1) := by decide +kernel
theorem dM_put_52 : decode cM_put 52 = .ok (.iadd, 1) := by decide +kernel
theorem dM_put_53 : decode cM_put 53 = .ok (.putfield 146, 3) := by decide +kernel
theorem dM_put_56 : decode cM_put 56 = .ok (.return_, 1) := by decide +kernel
theorem dM_putWay_0 : decode cM_putWay 0 = .ok (.iconst 1, 1) := by decide +kernel
theorem dM_putWay_1 : decode cM_putWay 1 = .ok (.istore_n 3, 1) := by decide +kernel
theorem dM_putWay_2 : decode cM_putWay 2 = .ok (.iload_n 3, 1) := by decide +kernel
theorem dM_putWay_3 : decode cM_putWay 3 = .ok (.aload_n 0, 1) := by decide +kernel
theorem dM_putWay_4 : decode cM_putWay 4 = .ok (.getfield 25, 3) := by decide +kernel
theorem dM_putWay_7 : decode cM_putWay 7 = .ok (.bipush 64, 2) := by decide +kernel
theorem dM_putWay_9 : decode cM_putWay 9 = .ok (.iload_n 1, 1) := by decide +kernel
theorem dM_putWay_10 : decode cM_putWay 10 = .ok (.imul, 1) := by decide +kernel
theorem dM_putWay_11 : decode cM_putWay 11 = .ok (.iload_n 2, 1) := by decide +kernel
theorem dM_putWay_12 : decode cM_putWay 12 = .ok (.iadd, 1) := by decide +kernel
theorem dM_putWay_13 : decode cM_putWay 13 = .ok (.iaload, 1) := by decide +kernel
theorem dM_putWay_14 : decode cM_putWay 14 = .ok (.if_icmp .gt 64, 3) := by decide +kernel
theorem dM_putWay_17 : decode cM_putWay 17 = .ok (.iload_n 2, 1) := by decide +kernel
theorem dM_putWay_18 : decode cM_putWay 18 = .ok (.istore 4, 2) := by decide +kernel
theorem dM_putWay_20 : decode cM_putWay 20 = .ok (.aload_n 0, 1) := by decide +kernel
theorem dM_putWay_21 : decode cM_putWay 21 = .ok (.getfield 25, 3) := by decide +kernel
theorem dM_putWay_24 : decode cM_putWay 24 = .ok (.bipush 64, 2) := by decide +kernel
theorem dM_putWay_26 : decode cM_putWay 26 = .ok (.iload_n 1, 1) := by decide +kernel
theorem dM_putWay_27 : decode cM_putWay 27 = .ok (.imul, 1) := by decide +kernel
theorem dM_putWay_28 : decode cM_putWay 28 = .ok (.iload 4, 2) := by decide +kernel
theorem dM_putWay_30 : decode cM_putWay 30 = .ok (.iadd, 1) := by decide +kernel
theorem dM_putWay_31 : decode cM_putWay 31 = .ok (.iaload, 1) := by decide +kernel
theorem dM_putWay_32 : decode cM_putWay 32 = .ok (.iload_n 3, 1) := by decide +kernel
theorem dM_putWay_33 : decode cM_putWay 33 = .ok (.if_icmp .le 20, 3) := by decide +kernel
theorem dM_putWay_36 : decode cM_putWay 36 = .ok (.aload_n 0, 1) := by decide +kernel
theorem dM_putWay_37 : decode cM_putWay 37 = .ok (.getfield 19, 3) := by decide +kernel
theorem dM_putWay_40 : decode cM_putWay 40 = .ok (.bipush 64, 2) := by decide +kernel
theorem dM_putWay_42 : decode cM_putWay 42 = .ok (.iload_n 1, 1) := by decide +kernel
theorem dM_putWay_43 : decode cM_putWay 43 = .ok (.imul, 1) := by decide +kernel
theorem dM_putWay_44 : decode cM_putWay 44 = .ok (.iload 4, 2) := by decide +kernel
theorem dM_putWay_46 : decode cM_putWay 46 = .ok (.iadd, 1) := by decide +kernel
theorem dM_putWay_47 : decode cM_putWay 47 = .ok (.iaload, 1) := by decide +kernel
theorem dM_putWay_48 : decode cM_putWay 48 = .ok (.istore 4, 2) := by decide +kernel
theorem dM_putWay_50 : decode cM_putWay 50 = .ok (.goto (-30), 3) := by decide +kernel
theorem dM_putWay_53 : decode cM_putWay 53 = .ok (.aload_n 0, 1) := by decide +kernel
theorem dM_putWay_54 : decode cM_putWay 54 = .ok (.aload_n 0, 1) := by decide +kernel
theorem dM_putWay_55 : decode cM_putWay 55 = .ok (.getfield 22, 3) := by decide +kernel
theorem dM_putWay_58 : decode cM_putWay 58 = .ok (.bipush 64, 2) := by decide +kernel
theorem dM_putWay_60 : decode cM_putWay 60 = .ok (.iload_n 1, 1) := by decide +kernel
theorem dM_putWay_61 : decode cM_putWay 61 = .ok (.imul, 1) := by decide +kernel
theorem dM_putWay_62 : decode cM_putWay 62 = .ok (.iload 4, 2) := by decide +kernel
theorem dM_putWay_64 : decode cM_putWay 64 = .ok (.iadd, 1) := by decide +kernel
theorem dM_putWay_65 : decode cM_putWay 65 = .ok (.iaload, 1) := by decide +kernel
theorem dM_putWay_66 : decode cM_putWay 66 = .ok (.invokestatic 124, 3) := by decide +kernel
theorem dM_putWay_69 : decode cM_putWay 69 = .ok (.invokevirtual 149, 3) := by decide +kernel
theorem dM_putWay_72 : decode cM_putWay 72 = .ok (.iinc 3 1, 3) := by decide +kernel
theorem dM_putWay_75 : decode cM_putWay 75 = .ok (.goto (-73), 3) := by decide +kernel
theorem dM_putWay_78 : decode cM_putWay 78 = .ok (.return_, 1) := by decide +kernel
theorem dM_putElement_0 : decode cM_putElement 0 = .ok (.aload_n 0, 1) := by decide +kernel
theorem dM_putElement_1 : decode cM_putElement 1 = .ok (.iload_n 1, 1) := by decide +kernel
theorem dM_putElement_2 : decode cM_putElement 2 = .ok (.aload_n 0, 1) := by decide +kernel
theorem dM_putElement_3 : decode cM_putElement 3 = .ok (.getfield 137, 3) := by decide +kernel
theorem dM_putElement_6 : decode cM_putElement 6 = .ok (.invokevirtual 152, 3) := by decide +kernel
theorem dM_putElement_9 : decode cM_putElement 9 = .ok (.aload_n 0, 1) := by decide +kernel
theorem dM_putElement_10 : decode cM_putElement 10 = .ok (.aload_n 0, 1) := by decide +kernel
theorem dM_putElement_11 : decode cM_putElement 11 = .ok (.getfield 140, 3) := by decide +kernel
theorem dM_putElement_14 : decode cM_putElement 14 = .ok (.invokevirtual 149, 3) := by decide +kernel
theorem dM_putElement_17 : decode cM_putElement 17 = .ok (.aload_n 0, 1) := by decide +kernel
theorem dM_putElement_18 : decode cM_putElement 18 = .ok (.getfield 143, 3) := by decide +kernel
theorem dM_putElement_21 : decode cM_putElement 21 = .ok (.istore_n 2, 1) := by decide +kernel
theorem dM_putElement_22 : decode cM_putElement 22 = .ok (.iload_n 2, 1) := by decide +kernel
theorem dM_putElement_23 : decode cM_putElement 23 = .ok (.ifCond .le 37, 3) := by decide +kernel
theorem dM_putElement_26 : decode cM_putElement 26 = .ok (.aload_n 0, 1) := by decide +kernel
theorem dM_putElement_27 : decode cM_putElement 27 = .ok (.aload_n 0, 1) := by decide +kernel
theorem dM_putElement_28 : decode cM_putElement 28 = .ok (.getfield 22, 3) := by decide +kernel
theorem dM_putElement_31 : decode cM_putElement 31 = .ok (.bipush 64, 2) := by decide +kernel
theorem dM_putElement_33 : decode cM_putElement 33 = .ok (.iload_n 1, 1) := by decide +kernel
theorem dM_putElement_34 : decode cM_putElement 34 = .ok (.imul, 1) := by decide +kernel
theorem dM_putElement_35 : decode cM_putElement 35 = .ok (.iload_n 2, 1) := by decide +kernel
theorem dM_putElement_36 : decode cM_putElement 36 = .ok (.iadd, 1) := by decide +kernel
theorem dM_putElement_37 : decode cM_putElement 37 = .ok (.iaload, 1) := by decide +kernel
theorem dM_putElement_38 : decode cM_putElement 38 = .ok (.invokestatic 124, 3) := by decide +kernel
theorem dM_putElement_41 : decode cM_putElement 41 = .ok (.ineg, 1) := by decide +kernel
theorem dM_putElement_42 : decode cM_putElement 42 = .ok (.invokevirtual 149, 3) := by decide +kernel
theorem dM_putElement_45 : decode cM_putElement 45 = .ok (.aload_n 0, 1) := by decide +kernel
theorem dM_putElement_46 : decode cM_putElement 46 = .ok (.getfield 19, 3) := by decide +kernel
theorem dM_putElement_49 : decode cM_putElement 49 = .ok (.bipush 64, 2) := by decide +kernel
theorem dM_putElement_51 : decode cM_putElement 51 = .ok (.iload_n 1, 1) := by decide +kernel
theorem dM_putElement_52 : decode cM_putElement 52 = .ok (.imul, 1) := by decide +kernel
theorem dM_putElement_53 : decode cM_putElement 53 = .ok (.iload_n 2, 1) := by decide +kernel
theorem dM_putElement_54 : decode cM_putElement 54 = .ok (.iadd, 1) := by decide +kernel
theorem dM_putElement_55 : decode cM_putElement 55 = .ok (.iaload, 1) := by decide +kernel
theorem dM_putElement_56 : decode cM_putElement 56 = .ok (.istore_n 2, 1) := by decide +kernel
theorem dM_putElement_57 : decode cM_putElement 57 = .ok (.goto (-35), 3) := by decide +kernel
theorem dM_putElement_60 : decode cM_putElement 60 = .ok (.return_, 1) := by decide +kernel
theorem dM_leadsBack_0 : decode cM_leadsBack 0 = .ok (.iconst 0, 1) := by decide +kernel
theorem dM_leadsBack_1 : decode cM_leadsBack 1 = .ok (.istore_n 2, 1) := by decide +kernel
theorem dM_leadsBack_2 : decode cM_leadsBack 2 = .ok (.iconst 0, 1) := by decide +kernel
theorem dM_leadsBack_3 : decode cM_leadsBack 3 = .ok (.istore_n 3, 1) := by decide +kernel
theorem dM_leadsBack_4 : decode cM_leadsBack 4 = .ok (.iload_n 3, 1) := by decide +kernel
theorem dM_leadsBack_5 : decode cM_leadsBack 5 = .ok (.aload_n 0, 1) := by decide +kernel
theorem dM_leadsBack_6 : decode cM_leadsBack 6 = .ok (.getfield 146, 3) := by decide +kernel
theorem dM_leadsBack_9 : decode cM_leadsBack 9 = .ok (.if_icmp .ge 29, 3) := by decide +kernel
theorem dM_leadsBack_12 : decode cM_leadsBack 12 = .ok (.iload_n 2, 1) := by decide +kernel
theorem dM_leadsBack_13 : decode cM_leadsBack 13 = .ok (.ifCond .lt 25, 3) := by decide +kernel
theorem dM_leadsBack_16 : decode cM_leadsBack 16 = .ok (.aload_n 0, 1) := by decide +kernel
theorem dM_leadsBack_17 : decode cM_leadsBack 17 = .ok (.iload_n 1, 1) := by decide +kernel
theorem dM_leadsBack_18 : decode cM_leadsBack 18 = .ok (.iload_n 2, 1) := by decide +kernel
theorem dM_leadsBack_19 : decode cM_leadsBack 19 = .ok (.aload_n 0, 1) := by decide +kernel
theorem dM_leadsBack_20 : decode cM_leadsBack 20 = .ok (.getfield 55, 3) := by decide +kernel
theorem dM_leadsBack_23 : decode cM_leadsBack 23 = .ok (.iload_n 3, 1) := by decide +kernel
theorem dM_leadsBack_24 : decode cM_leadsBack 24 = .ok (.iaload, 1) := by decide +kernel
theorem dM_leadsBack_25 : decode cM_leadsBack 25 = .ok (.invokestatic 78, 3) := by decide +kernel
theorem dM_leadsBack_28 : decode cM_leadsBack 28 = .ok (.invokevirtual 82, 3) := by decide +kernel
theorem dM_leadsBack_31 : decode cM_leadsBack 31 = .ok (.istore_n 2, 1) := by decide +kernel
theorem dM_leadsBack_32 : decode cM_leadsBack 32 = .ok (.iinc 3 1, 3) := by decide +kernel
theorem dM_leadsBack_35 : decode cM_leadsBack 35 = .ok (.goto (-31), 3) := by decide +kernel
theorem dM_leadsBack_38 : decode cM_leadsBack 38 = .ok (.iload_n 2, 1) := by decide +kernel
theorem dM_leadsBack_39 : decode cM_leadsBack 39 = .ok (.ifCond .ne 7, 3) := by decide +kernel
theorem dM_leadsBack_42 : decode cM_leadsBack 42 = .ok (.iconst 1, 1) := by decide +kernel
theorem dM_leadsBack_43 : decode cM_leadsBack 43 = .ok (.goto 4, 3) := by decide +kernel
theorem dM_leadsBack_46 : decode cM_leadsBack 46 = .ok (.iconst 0, 1) := by decide +kernel
theorem dM_leadsBack_47 : decode cM_leadsBack 47 = .ok (.ireturn, 1) := by decide +kernel
theorem dM_take_0 : decode cM_take 0 = .ok (.iload_n 1, 1) := by decide +kernel
theorem dM_take_1 : decode cM_take 1 = .ok (.invokestatic 101, 3) := by decide +kernel
theorem dM_take_4 : decode cM_take 4 = .ok (.ifCond .eq 12, 3) := by decide +kernel
theorem dM_take_7 : decode cM_take 7 = .ok (.aload_n 0, 1) := by decide +kernel
theorem dM_take_8 : decode cM_take 8 = .ok (.iload_n 1, 1) := by decide +kernel
theorem dM_take_9 : decode cM_take 9 = .ok (.iload_n 2, 1) := by decide +kernel
theorem dM_take_10 : decode cM_take 10 = .ok (.invokevirtual 155, 3) := by decide +kernel
theorem dM_take_13 : decode cM_take 13 = .ok (.ifCond .ne 5, 3) := by decide +kernel
theorem dM_take_16 : decode cM_take 16 = .ok (.iconst (-1), 1) := by decide +kernel
theorem dM_take_17 : decode cM_take 17 = .ok (.ireturn, 1) := by decide +kernel
theorem dM_take_18 : decode cM_take 18 = .ok (.aload_n 0, 1) := by decide +kernel
theorem dM_take_19 : decode cM_take 19 = .ok (.iconst 0, 1) := by decide +kernel
theorem dM_take_20 : decode cM_take 20 = .ok (.putfield 146, 3) := by decide +kernel
theorem dM_take_23 : decode cM_take 23 = .ok (.aload_n 0, 1) := by decide +kernel
theorem dM_take_24 : decode cM_take 24 = .ok (.iload_n 1, 1) := by decide +kernel
theorem dM_take_25 : decode cM_take 25 = .ok (.invokevirtual 159, 3) := by decide +kernel
theorem dM_take_28 : decode cM_take 28 = .ok (.aload_n 0, 1) := by decide +kernel
theorem dM_take_29 : decode cM_take 29 = .ok (.getfield 146, 3) := by decide +kernel
theorem dM_take_32 : decode cM_take 32 = .ok (.bipush 24, 2) := by decide +kernel
theorem dM_take_34 : decode cM_take 34 = .ok (.if_icmp .le 6, 3) := by decide +kernel
theorem dM_take_37 : decode cM_take 37 = .ok (.bipush (-2), 2) := by decide +kernel
theorem dM_take_39 : decode cM_take 39 = .ok (.ireturn, 1) := by decide +kernel
theorem dM_take_40 : decode cM_take 40 = .ok (.aload_n 0, 1) := by decide +kernel
theorem dM_take_41 : decode cM_take 41 = .ok (.aload_n 0, 1) := by decide +kernel
theorem dM_take_42 : decode cM_take 42 = .ok (.getfield 146, 3) := by decide +kernel
theorem dM_take_45 : decode cM_take 45 = .ok (.putfield 66, 3) := by decide +kernel
theorem dM_take_48 : decode cM_take 48 = .ok (.iconst 0, 1) := by decide +kernel
theorem dM_take_49 : decode cM_take 49 = .ok (.istore_n 3, 1) := by decide +kernel
theorem dM_take_50 : decode cM_take 50 = .ok (.iload_n 3, 1) := by decide +kernel
theorem dM_take_51 : decode cM_take 51 = .ok (.aload_n 0, 1) := by decide +kernel
theorem dM_take_52 : decode cM_take 52 = .ok (.getfield 66, 3) := by decide +kernel
theorem dM_take_55 : decode cM_take 55 = .ok (.if_icmp .ge 21, 3) := by decide +kernel
theorem dM_take_58 : decode cM_take 58 = .ok (.aload_n 0, 1) := by decide +kernel
theorem dM_take_59 : decode cM_take 59 = .ok (.getfield 7, 3) := by decide +kernel
theorem dM_take_62 : decode cM_take 62 = .ok (.iload_n 3, 1) := by decide +kernel
theorem dM_take_63 : decode cM_take 63 = .ok (.aload_n 0, 1) := by decide +kernel
theorem dM_take_64 : decode cM_take 64 = .ok (.getfield 55, 3) := by decide +kernel
theorem dM_take_67 : decode cM_take 67 = .ok (.iload_n 3, 1) := by decide +kernel
theorem dM_take_68 : decode cM_take 68 = .ok (.iaload, 1) := by decide +kernel
theorem dM_take_69 : decode cM_take 69 = .ok (.iastore, 1) := by decide +kernel
theorem dM_take_70 : decode cM_take 70 = .ok (.iinc 3 1, 3) := by decide +kernel
theorem dM_take_73 : decode cM_take 73 = .ok (.goto (-23), 3) := by decide +kernel
theorem dM_take_76 : decode cM_take 76 = .ok (.aload_n 0, 1) := by decide +kernel
theorem dM_take_77 : decode cM_take 77 = .ok (.getfield 66, 3) := by decide +kernel
theorem dM_take_80 : decode cM_take 80 = .ok (.ireturn, 1) := by decide +kernel
theorem dM_length_0 : decode cM_length 0 = .ok (.iload_n 1, 1) := by decide +kernel
theorem dM_length_1 : decode cM_length 1 = .ok (.invokestatic 101, 3) := by decide +kernel
theorem dM_length_4 : decode cM_length 4 = .ok (.ifCond .eq 12, 3) := by decide +kernel
theorem dM_length_7 : decode cM_length 7 = .ok (.aload_n 0, 1) := by decide +kernel
theorem dM_length_8 : decode cM_length 8 = .ok (.iload_n 1, 1) := by decide +kernel
theorem dM_length_9 : decode cM_length 9 = .ok (.iload_n 2, 1) := by decide +kernel
theorem dM_length_10 : decode cM_length 10 = .ok (.invokevirtual 155, 3) := by decide +kernel
theorem dM_length_13 : decode cM_length 13 = .ok (.ifCond .ne 5, 3) := by decide +kernel
theorem dM_length_16 : decode cM_length 16 = .ok (.iconst (-1), 1) := by decide +kernel
theorem dM_length_17 : decode cM_length 17 = .ok (.ireturn, 1) := by decide +kernel
theorem dM_length_18 : decode cM_length 18 = .ok (.aload_n 0, 1) := by decide +kernel
theorem dM_length_19 : decode cM_length 19 = .ok (.iconst 0, 1) := by decide +kernel
theorem dM_length_20 : decode cM_length 20 = .ok (.putfield 146, 3) := by decide +kernel
theorem dM_length_23 : decode cM_length 23 = .ok (.aload_n 0, 1) := by decide +kernel
theorem dM_length_24 : decode cM_length 24 = .ok (.iload_n 1, 1) := by decide +kernel
theorem dM_length_25 : decode cM_length 25 = .ok (.invokevirtual 159, 3) := by decide +kernel
theorem dM_length_28 : decode cM_length 28 = .ok (.aload_n 0, 1) := by decide +kernel
theorem dM_length_29 : decode cM_length 29 = .ok (.getfield 146, 3) := by decide +kernel
theorem dM_length_32 : decode cM_length 32 = .ok (.ireturn, 1) := by decide +kernel
theorem dM_basis_0 : decode cM_basis 0 = .ok (.iload_n 1, 1) := by decide +kernel
theorem dM_basis_1 : decode cM_basis 1 = .ok (.invokestatic 101, 3) := by decide +kernel
theorem dM_basis_4 : decode cM_basis 4 = .ok (.ifCond .eq 12, 3) := by decide +kernel
theorem dM_basis_7 : decode cM_basis 7 = .ok (.aload_n 0, 1) := by decide +kernel
theorem dM_basis_8 : decode cM_basis 8 = .ok (.iload_n 1, 1) := by decide +kernel
theorem dM_basis_9 : decode cM_basis 9 = .ok (.iload_n 2, 1) := by decide +kernel
theorem dM_basis_10 : decode cM_basis 10 = .ok (.invokevirtual 155, 3) := by decide +kernel
theorem dM_basis_13 : decode cM_basis 13 = .ok (.ifCond .ne 5, 3) := by decide +kernel
theorem dM_basis_16 : decode cM_basis 16 = .ok (.iconst 0, 1) := by decide +kernel
theorem dM_basis_17 : decode cM_basis 17 = .ok (.ireturn, 1) := by decide +kernel
theorem dM_basis_18 : decode cM_basis 18 = .ok (.aload_n 0, 1) := by decide +kernel
theorem dM_basis_19 : decode cM_basis 19 = .ok (.iconst 0, 1) := by decide +kernel
theorem dM_basis_20 : decode cM_basis 20 = .ok (.putfield 146, 3) := by decide +kernel
theorem dM_basis_23 : decode cM_basis 23 = .ok (.aload_n 0, 1) := by decide +kernel
theorem dM_basis_24 : decode cM_basis 24 = .ok (.iload_n 1, 1) := by decide +kernel
theorem dM_basis_25 : decode cM_basis 25 = .ok (.invokevirtual 159, 3) := by decide +kernel
theorem dM_basis_28 : decode cM_basis 28 = .ok (.iload_n 3, 1) := by decide +kernel
theorem dM_basis_29 : decode cM_basis 29 = .ok (.ifCond .lt 20, 3) := by decide +kernel
theorem dM_basis_32 : decode cM_basis 32 = .ok (.iload_n 3, 1) := by decide +kernel
theorem dM_basis_33 : decode cM_basis 33 = .ok (.aload_n 0, 1) := by decide +kernel
theorem dM_basis_34 : decode cM_basis 34 = .ok (.getfield 146, 3) := by decide +kernel
theorem dM_basis_37 : decode cM_basis 37 = .ok (.if_icmp .ge 12, 3) := by decide +kernel
theorem dM_basis_40 : decode cM_basis 40 = .ok (.aload_n 0, 1) := by decide +kernel
theorem dM_basis_41 : decode cM_basis 41 = .ok (.getfield 55, 3) := by decide +kernel
theorem dM_basis_44 : decode cM_basis 44 = .ok (.iload_n 3, 1) := by decide +kernel
theorem dM_basis_45 : decode cM_basis 45 = .ok (.iaload, 1) := by decide +kernel
theorem dM_basis_46 : decode cM_basis 46 = .ok (.goto 4, 3) := by decide +kernel
theorem dM_basis_49 : decode cM_basis 49 = .ok (.iconst 0, 1) := by decide +kernel
theorem dM_basis_50 : decode cM_basis 50 = .ok (.ireturn, 1) := by decide +kernel
theorem dM_written_0 : decode cM_written 0 = .ok (.iload_n 1, 1) := by decide +kernel
theorem dM_written_1 : decode cM_written 1 = .ok (.invokestatic 101, 3) := by decide +kernel
theorem dM_written_4 : decode cM_written 4 = .ok (.ifCond .eq 11, 3) := by decide +kernel
theorem dM_written_7 : decode cM_written 7 = .ok (.aload_n 0, 1) := by decide +kernel
theorem dM_written_8 : decode cM_written 8 = .ok (.iload_n 1, 1) := by decide +kernel
theorem dM_written_9 : decode cM_written 9 = .ok (.invokevirtual 127, 3) := by decide +kernel
theorem dM_written_12 : decode cM_written 12 = .ok (.ifCond .eq 5, 3) := by decide +kernel
theorem dM_written_15 : decode cM_written 15 = .ok (.iconst 0, 1) := by decide +kernel
theorem dM_written_16 : decode cM_written 16 = .ok (.ireturn, 1) := by decide +kernel
theorem dM_written_17 : decode cM_written 17 = .ok (.iconst 0, 1) := by decide +kernel
theorem dM_written_18 : decode cM_written 18 = .ok (.istore_n 3, 1) := by decide +kernel
theorem dM_written_19 : decode cM_written 19 = .ok (.iconst 0, 1) := by decide +kernel
theorem dM_written_20 : decode cM_written 20 = .ok (.istore 4, 2) := by decide +kernel
theorem dM_written_22 : decode cM_written 22 = .ok (.iconst 0, 1) := by decide +kernel
theorem dM_written_23 : decode cM_written 23 = .ok (.istore 5, 2) := by decide +kernel
theorem dM_written_25 : decode cM_written 25 = .ok (.iload 5, 2) := by decide +kernel
theorem dM_written_27 : decode cM_written 27 = .ok (.aload_n 0, 1) := by decide +kernel
theorem dM_written_28 : decode cM_written 28 = .ok (.getfield 66, 3) := by decide +kernel
theorem dM_written_31 : decode cM_written 31 = .ok (.if_icmp .ge 103, 3) := by decide +kernel
theorem dM_written_34 : decode cM_written 34 = .ok (.aload_n 0, 1) := by decide +kernel
theorem dM_written_35 : decode cM_written 35 = .ok (.getfield 7, 3) := by decide +kernel
theorem dM_written_38 : decode cM_written 38 = .ok (.iload 5, 2) := by decide +kernel
theorem dM_written_40 : decode cM_written 40 = .ok (.iaload, 1) := by decide +kernel
theorem dM_written_41 : decode cM_written 41 = .ok (.invokestatic 78, 3) := by decide +kernel
theorem dM_written_44 : decode cM_written 44 = .ok (.istore 6, 2) := by decide +kernel
theorem dM_written_46 : decode cM_written 46 = .ok (.aload_n 0, 1) := by decide +kernel
theorem dM_written_47 : decode cM_written 47 = .ok (.iload_n 1, 1) := by decide +kernel
theorem dM_written_48 : decode cM_written 48 = .ok (.iload_n 3, 1) := by decide +kernel
theorem dM_written_49 : decode cM_written 49 = .ok (.iload 6, 2) := by decide +kernel
theorem dM_written_51 : decode cM_written 51 = .ok (.invokevirtual 82, 3) := by decide +kernel
theorem dM_written_54 : decode cM_written 54 = .ok (.istore 7, 2) := by decide +kernel
theorem dM_written_56 : decode cM_written 56 = .ok (.aload_n 0, 1) := by decide +kernel
theorem dM_written_57 : decode cM_written 57 = .ok (.iload_n 1, 1) := by decide +kernel
theorem dM_written_58 : decode cM_written 58 = .ok (.iload_n 3, 1) := by decide +kernel
theorem dM_written_59 : decode cM_written 59 = .ok (.iload 6, 2) := by decide +kernel
theorem dM_written_61 : decode cM_written 61 = .ok (.iload 7, 2) := by decide +kernel
theorem dM_written_63 : decode cM_written 63 = .ok (.invokevirtual 130, 3) := by decide +kernel
theorem dM_written_66 : decode cM_written 66 = .ok (.ifCond .ne 59, 3) := by decide +kernel
theorem dM_written_69 : decode cM_written 69 = .ok (.iload 4, 2) := by decide +kernel
theorem dM_written_71 : decode cM_written 71 = .ok (.iload_n 2, 1) := by decide +kernel
theorem dM_written_72 : decode cM_written 72 = .ok (.if_icmp .ne 50, 3) := by decide +kernel
theorem dM_written_75 : decode cM_written 75 = .ok (.aload_n 0, 1) := by decide +kernel
theorem dM_written_76 : decode cM_written 76 = .ok (.getfield 7, 3) := by decide +kernel
theorem dM_written_79 : decode cM_written 79 = .ok (.iload 5, 2) := by decide +kernel
theorem dM_written_81 : decode cM_written 81 = .ok (.iaload, 1) := by decide +kernel
theorem dM_written_82 : decode cM_written 82 = .ok (.ifCond .le 21, 3) := by decide +kernel
theorem dM_written_85 : decode cM_written 85 = .ok (.aload_n 0, 1) := by decide +kernel
theorem dM_written_86 : decode cM_written 86 = .ok (.iload_n 1, 1) := by decide +kernel
theorem dM_written_87 : decode cM_written 87 = .ok (.iload_n 3, 1) := by decide +kernel
theorem dM_written_88 : decode cM_written 88 = .ok (.aload_n 0, 1) := by decide +kernel
theorem dM_written_89 : decode cM_written 89 = .ok (.getfield 7, 3) := by decide +kernel
theorem dM_written_92 : decode cM_written 92 = .ok (.iload 5, 2) := by decide +kernel
theorem dM_written_94 : decode cM_written 94 = .ok (.iaload, 1) := by decide +kernel
theorem dM_written_95 : decode cM_written 95 = .ok (.invokevirtual 134, 3) := by decide +kernel
theorem dM_written_98 : decode cM_written 98 = .ok (.iconst 1, 1) := by decide +kernel
theorem dM_written_99 : decode cM_written 99 = .ok (.iadd, 1) := by decide +kernel
theorem dM_written_100 : decode cM_written 100 = .ok (.goto 21, 3) := by decide +kernel
theorem dM_written_103 : decode cM_written 103 = .ok (.aload_n 0, 1) := by decide +kernel
theorem dM_written_104 : decode cM_written 104 = .ok (.iload_n 1, 1) := by decide +kernel
theorem dM_written_105 : decode cM_written 105 = .ok (.iload 7, 2) := by decide +kernel
theorem dM_written_107 : decode cM_written 107 = .ok (.aload_n 0, 1) := by decide +kernel
theorem dM_written_108 : decode cM_written 108 = .ok (.getfield 7, 3) := by decide +kernel
theorem dM_written_111 : decode cM_written 111 = .ok (.iload 5, 2) := by decide +kernel
theorem dM_written_113 : decode cM_written 113 = .ok (.iaload, 1) := by decide +kernel
theorem dM_written_114 : decode cM_written 114 = .ok (.ineg, 1) := by decide +kernel
theorem dM_written_115 : decode cM_written 115 = .ok (.invokevirtual 134, 3) := by decide +kernel
theorem dM_written_118 : decode cM_written 118 = .ok (.ineg, 1) := by decide +kernel
theorem dM_written_119 : decode cM_written 119 = .ok (.iconst 1, 1) := by decide +kernel
theorem dM_written_120 : decode cM_written 120 = .ok (.isub, 1) := by decide +kernel
theorem dM_written_121 : decode cM_written 121 = .ok (.ireturn, 1) := by decide +kernel
theorem dM_written_122 : decode cM_written 122 = .ok (.iinc 4 1, 3) := by decide +kernel
theorem dM_written_125 : decode cM_written 125 = .ok (.iload 7, 2) := by decide +kernel
theorem dM_written_127 : decode cM_written 127 = .ok (.istore_n 3, 1) := by decide +kernel
theorem dM_written_128 : decode cM_written 128 = .ok (.iinc 5 1, 3) := by decide +kernel
theorem dM_written_131 : decode cM_written 131 = .ok (.goto (-106), 3) := by decide +kernel
theorem dM_written_134 : decode cM_written 134 = .ok (.iconst 0, 1) := by decide +kernel
theorem dM_written_135 : decode cM_written 135 = .ok (.ireturn, 1) := by decide +kernel
theorem dM_target_0 : decode cM_target 0 = .ok (.iload_n 1, 1) := by decide +kernel
theorem dM_target_1 : decode cM_target 1 = .ok (.invokestatic 101, 3) := by decide +kernel
theorem dM_target_4 : decode cM_target 4 = .ok (.ifCond .eq 38, 3) := by decide +kernel
theorem dM_target_7 : decode cM_target 7 = .ok (.iload_n 2, 1) := by decide +kernel
theorem dM_target_8 : decode cM_target 8 = .ok (.ifCond .lt 34, 3) := by decide +kernel
theorem dM_target_11 : decode cM_target 11 = .ok (.iload_n 2, 1) := by decide +kernel
theorem dM_target_12 : decode cM_target 12 = .ok (.aload_n 0, 1) := by decide +kernel
theorem dM_target_13 : decode cM_target 13 = .ok (.getfield 13, 3) := by decide +kernel
theorem dM_target_16 : decode cM_target 16 = .ok (.iload_n 1, 1) := by decide +kernel
theorem dM_target_17 : decode cM_target 17 = .ok (.iaload, 1) := by decide +kernel
theorem dM_target_18 : decode cM_target 18 = .ok (.if_icmp .ge 24, 3) := by decide +kernel
theorem dM_target_21 : decode cM_target 21 = .ok (.aload_n 0, 1) := by decide +kernel
theorem dM_target_22 : decode cM_target 22 = .ok (.iload_n 3, 1) := by decide +kernel
theorem dM_target_23 : decode cM_target 23 = .ok (.invokevirtual 62, 3) := by decide +kernel
theorem dM_target_26 : decode cM_target 26 = .ok (.ifCond .eq 16, 3) := by decide +kernel
theorem dM_target_29 : decode cM_target 29 = .ok (.aload_n 0, 1) := by decide +kernel
theorem dM_target_30 : decode cM_target 30 = .ok (.iload_n 1, 1) := by decide +kernel
theorem dM_target_31 : decode cM_target 31 = .ok (.iload_n 2, 1) := by decide +kernel
theorem dM_target_32 : decode cM_target 32 = .ok (.iload_n 3, 1) := by decide +kernel
theorem dM_target_33 : decode cM_target 33 = .ok (.invokestatic 78, 3) := by decide +kernel
theorem dM_target_36 : decode cM_target 36 = .ok (.invokevirtual 82, 3) := by decide +kernel
theorem dM_target_39 : decode cM_target 39 = .ok (.goto 4, 3) := by decide +kernel
theorem dM_target_42 : decode cM_target 42 = .ok (.iconst (-1), 1) := by decide +kernel
theorem dM_target_43 : decode cM_target 43 = .ok (.ireturn, 1) := by decide +kernel
theorem dM_figure_0 : decode cM_figure 0 = .ok (.iload_n 1, 1) := by decide +kernel
theorem dM_figure_1 : decode cM_figure 1 = .ok (.invokestatic 101, 3) := by decide +kernel
theorem dM_figure_4 : decode cM_figure 4 = .ok (.ifCond .eq 12, 3) := by decide +kernel
theorem dM_figure_7 : decode cM_figure 7 = .ok (.iload_n 2, 1) := by decide +kernel
theorem dM_figure_8 : decode cM_figure 8 = .ok (.ifCond .lt 8, 3) := by decide +kernel
theorem dM_figure_11 : decode cM_figure 11 = .ok (.iload_n 2, 1) := by decide +kernel
theorem dM_figure_12 : decode cM_figure 12 = .ok (.iconst 3, 1) := by decide +kernel
theorem dM_figure_13 : decode cM_figure 13 = .ok (.if_icmp .le 5, 3) := by decide +kernel
theorem dM_figure_16 : decode cM_figure 16 = .ok (.iconst (-1), 1) := by decide +kernel
theorem dM_figure_17 : decode cM_figure 17 = .ok (.ireturn, 1) := by decide +kernel
theorem dM_figure_18 : decode cM_figure 18 = .ok (.iconst 0, 1) := by decide +kernel
theorem dM_figure_19 : decode cM_figure 19 = .ok (.istore_n 3, 1) := by decide +kernel
theorem dM_figure_20 : decode cM_figure 20 = .ok (.iconst 0, 1) := by decide +kernel
theorem dM_figure_21 : decode cM_figure 21 = .ok (.istore 4, 2) := by decide +kernel
theorem dM_figure_23 : decode cM_figure 23 = .ok (.iload 4, 2) := by decide +kernel
theorem dM_figure_25 : decode cM_figure 25 = .ok (.aload_n 0, 1) := by decide +kernel
theorem dM_figure_26 : decode cM_figure 26 = .ok (.getfield 13, 3) := by decide +kernel
theorem dM_figure_29 : decode cM_figure 29 = .ok (.iload_n 1, 1) := by decide +kernel
theorem dM_figure_30 : decode cM_figure 30 = .ok (.iaload, 1) := by decide +kernel
theorem dM_figure_31 : decode cM_figure 31 = .ok (.if_icmp .ge 45, 3) := by decide +kernel
theorem dM_figure_34 : decode cM_figure 34 = .ok (.iconst 0, 1) := by decide +kernel
theorem dM_figure_35 : decode cM_figure 35 = .ok (.istore 5, 2) := by decide +kernel
theorem dM_figure_37 : decode cM_figure 37 = .ok (.iload 5, 2) := by decide +kernel
theorem dM_figure_39 : decode cM_figure 39 = .ok (.bipush 6, 2) := by decide +kernel
theorem dM_figure_41 : decode cM_figure 41 = .ok (.if_icmp .ge 29, 3) := by decide +kernel
theorem dM_figure_44 : decode cM_figure 44 = .ok (.aload_n 0, 1) := by decide +kernel
theorem dM_figure_45 : decode cM_figure 45 = .ok (.iload_n 1, 1) := by decide +kernel
theorem dM_figure_46 : decode cM_figure 46 = .ok (.iload 4, 2) := by decide +kernel
theorem dM_figure_48 : decode cM_figure 48 = .ok (.iload 5, 2) := by decide +kernel
theorem dM_figure_50 : decode cM_figure 50 = .ok (.invokevirtual 82, 3) := by decide +kernel
theorem dM_figure_53 : decode cM_figure 53 = .ok (.ifCond .lt 9, 3) := by decide +kernel
theorem dM_figure_56 : decode cM_figure 56 = .ok (.iload_n 3, 1) := by decide +kernel
theorem dM_figure_57 : decode cM_figure 57 = .ok (.iconst 1, 1) := by decide +kernel
theorem dM_figure_58 : decode cM_figure 58 = .ok (.iadd, 1) := by decide +kernel
theorem dM_figure_59 : decode cM_figure 59 = .ok (.goto 4, 3) := by decide +kernel
theorem dM_figure_62 : decode cM_figure 62 = .ok (.iload_n 3, 1) := by decide +kernel
theorem dM_figure_63 : decode cM_figure 63 = .ok (.istore_n 3, 1) := by decide +kernel
theorem dM_figure_64 : decode cM_figure 64 = .ok (.iinc 5 1, 3) := by decide +kernel
theorem dM_figure_67 : decode cM_figure 67 = .ok (.goto (-30), 3) := by decide +kernel
theorem dM_figure_70 : decode cM_figure 70 = .ok (.iinc 4 1, 3) := by decide +kernel
theorem dM_figure_73 : decode cM_figure 73 = .ok (.goto (-50), 3) := by decide +kernel
theorem dM_figure_76 : decode cM_figure 76 = .ok (.iload_n 2, 1) := by decide +kernel
theorem dM_figure_77 : decode cM_figure 77 = .ok (.ifCond .ne 12, 3) := by decide +kernel
theorem dM_figure_80 : decode cM_figure 80 = .ok (.aload_n 0, 1) := by decide +kernel
theorem dM_figure_81 : decode cM_figure 81 = .ok (.getfield 13, 3) := by decide +kernel
theorem dM_figure_84 : decode cM_figure 84 = .ok (.iload_n 1, 1) := by decide +kernel
theorem dM_figure_85 : decode cM_figure 85 = .ok (.iaload, 1) := by decide +kernel
theorem dM_figure_86 : decode cM_figure 86 = .ok (.goto 54, 3) := by decide +kernel
theorem dM_figure_89 : decode cM_figure 89 = .ok (.iload_n 2, 1) := by decide +kernel
theorem dM_figure_90 : decode cM_figure 90 = .ok (.iconst 1, 1) := by decide +kernel
theorem dM_figure_91 : decode cM_figure 91 = .ok (.if_icmp .ne 9, 3) := by decide +kernel
theorem dM_figure_94 : decode cM_figure 94 = .ok (.iload_n 3, 1) := by decide +kernel
theorem dM_figure_95 : decode cM_figure 95 = .ok (.iconst 2, 1) := by decide +kernel
theorem dM_figure_96 : decode cM_figure 96 = .ok (.idiv, 1) := by decide +kernel
theorem dM_figure_97 : decode cM_figure 97 = .ok (.goto 43, 3) := by decide +kernel
theorem dM_figure_100 : decode cM_figure 100 = .ok (.iload_n 2, 1) := by decide +kernel
theorem dM_figure_101 : decode cM_figure 101 = .ok (.iconst 2, 1) := by decide +kernel
theorem dM_figure_102 : decode cM_figure 102 = .ok (.if_icmp .ne 11, 3) := by decide +kernel
theorem dM_figure_105 : decode cM_figure 105 = .ok (.aload_n 0, 1) := by decide +kernel
theorem dM_figure_106 : decode cM_figure 106 = .ok (.iload_n 1, 1) := by decide +kernel
theorem dM_figure_107 : decode cM_figure 107 = .ok (.invokevirtual 162, 3) := by decide +kernel
theorem dM_figure_110 : decode cM_figure 110 = .ok (.goto 30, 3) := by decide +kernel
theorem dM_figure_113 : decode cM_figure 113 = .ok (.iload_n 3, 1) := by decide +kernel
theorem dM_figure_114 : decode cM_figure 114 = .ok (.iconst 2, 1) := by decide +kernel
theorem dM_figure_115 : decode cM_figure 115 = .ok (.aload_n 0, 1) := by decide +kernel
theorem dM_figure_116 : decode cM_figure 116 = .ok (.getfield 58, 3) := by decide +kernel
theorem dM_figure_119 : decode cM_figure 119 = .ok (.imul, 1) := by decide +kernel
theorem dM_figure_120 : decode cM_figure 120 = .ok (.aload_n 0, 1) := by decide +kernel
theorem dM_figure_121 : decode cM_figure 121 = .ok (.getfield 13, 3) := by decide +kernel
theorem dM_figure_124 : decode cM_figure 124 = .ok (.iload_n 1, 1) := by decide +kernel
theorem dM_figure_125 : decode cM_figure 125 = .ok (.iaload, 1) := by decide +kernel
theorem dM_figure_126 : decode cM_figure 126 = .ok (.imul, 1) := by decide +kernel
theorem dM_figure_127 : decode cM_figure 127 = .ok (.if_icmp .ne 12, 3) := by decide +kernel
theorem dM_figure_130 : decode cM_figure 130 = .ok (.aload_n 0, 1) := by decide +kernel
theorem dM_figure_131 : decode cM_figure 131 = .ok (.getfield 13, 3) := by decide +kernel
theorem dM_figure_134 : decode cM_figure 134 = .ok (.iload_n 1, 1) := by decide +kernel
theorem dM_figure_135 : decode cM_figure 135 = .ok (.iaload, 1) := by decide +kernel
theorem dM_figure_136 : decode cM_figure 136 = .ok (.goto 4, 3) := by decide +kernel
theorem dM_figure_139 : decode cM_figure 139 = .ok (.iconst 0, 1) := by decide +kernel
theorem dM_figure_140 : decode cM_figure 140 = .ok (.ireturn, 1) := by decide +kernel
theorem dM_contains_0 : decode cM_contains 0 = .ok (.iload_n 1, 1) := by decide +kernel
theorem dM_contains_1 : decode cM_contains 1 = .ok (.invokestatic 101, 3) := by decide +kernel
theorem dM_contains_4 : decode cM_contains 4 = .ok (.ifCond .eq 10, 3) := by decide +kernel
theorem dM_contains_7 : decode cM_contains 7 = .ok (.iload_n 2, 1) := by decide +kernel
theorem dM_contains_8 : decode cM_contains 8 = .ok (.invokestatic 101, 3) := by decide +kernel
theorem dM_contains_11 : decode cM_contains 11 = .ok (.ifCond .ne 5, 3) := by decide +kernel
theorem dM_contains_14 : decode cM_contains 14 = .ok (.iconst 0, 1) := by decide +kernel
theorem dM_contains_15 : decode cM_contains 15 = .ok (.ireturn, 1) := by decide +kernel
theorem dM_contains_16 : decode cM_contains 16 = .ok (.iconst 1, 1) := by decide +kernel
theorem dM_contains_17 : decode cM_contains 17 = .ok (.istore_n 3, 1) := by decide +kernel
theorem dM_contains_18 : decode cM_contains 18 = .ok (.aload_n 0, 1) := by decide +kernel
theorem dM_contains_19 : decode cM_contains 19 = .ok (.iload_n 2, 1) := by decide +kernel
theorem dM_contains_20 : decode cM_contains 20 = .ok (.invokevirtual 162, 3) := by decide +kernel
theorem dM_contains_23 : decode cM_contains 23 = .ok (.istore 4, 2) := by decide +kernel
theorem dM_contains_25 : decode cM_contains 25 = .ok (.iconst 0, 1) := by decide +kernel
theorem dM_contains_26 : decode cM_contains 26 = .ok (.istore 5, 2) := by decide +kernel
theorem dM_contains_28 : decode cM_contains 28 = .ok (.iload 5, 2) := by decide +kernel
theorem dM_contains_30 : decode cM_contains 30 = .ok (.iload 4, 2) := by decide +kernel
theorem dM_contains_32 : decode cM_contains 32 = .ok (.if_icmp .ge 51, 3) := by decide +kernel
theorem dM_contains_35 : decode cM_contains 35 = .ok (.iload_n 3, 1) := by decide +kernel
theorem dM_contains_36 : decode cM_contains 36 = .ok (.ifCond .eq 47, 3) := by decide +kernel
theorem dM_contains_39 : decode cM_contains 39 = .ok (.aload_n 0, 1) := by decide +kernel
theorem dM_contains_40 : decode cM_contains 40 = .ok (.iload_n 2, 1) := by decide +kernel
theorem dM_contains_41 : decode cM_contains 41 = .ok (.iload 5, 2) := by decide +kernel
theorem dM_contains_43 : decode cM_contains 43 = .ok (.invokevirtual 155, 3) := by decide +kernel
theorem dM_contains_46 : decode cM_contains 46 = .ok (.istore 6, 2) := by decide +kernel
theorem dM_contains_48 : decode cM_contains 48 = .ok (.aload_n 0, 1) := by decide +kernel
theorem dM_contains_49 : decode cM_contains 49 = .ok (.iconst 0, 1) := by decide +kernel
theorem dM_contains_50 : decode cM_contains 50 = .ok (.putfield 146, 3) := by decide +kernel
theorem dM_contains_53 : decode cM_contains 53 = .ok (.aload_n 0, 1) := by decide +kernel
theorem dM_contains_54 : decode cM_contains 54 = .ok (.iload_n 2, 1) := by decide +kernel
theorem dM_contains_55 : decode cM_contains 55 = .ok (.invokevirtual 159, 3) := by decide +kernel
theorem dM_contains_58 : decode cM_contains 58 = .ok (.iload 6, 2) := by decide +kernel
theorem dM_contains_60 : decode cM_contains 60 = .ok (.ifCond .eq 15, 3) := by decide +kernel
theorem dM_contains_63 : decode cM_contains 63 = .ok (.aload_n 0, 1) := by decide +kernel
theorem dM_contains_64 : decode cM_contains 64 = .ok (.iload_n 1, 1) := by decide +kernel
theorem dM_contains_65 : decode cM_contains 65 = .ok (.invokevirtual 165, 3) := by decide +kernel
theorem dM_contains_68 : decode cM_contains 68 = .ok (.ifCond .eq 7, 3) := by decide +kernel
theorem dM_contains_71 : decode cM_contains 71 = .ok (.iconst 1, 1) := by decide +kernel
theorem dM_contains_72 : decode cM_contains 72 = .ok (.goto 4, 3) := by decide +kernel
theorem dM_contains_75 : decode cM_contains 75 = .ok (.iconst 0, 1) := by decide +kernel
theorem dM_contains_76 : decode cM_contains 76 = .ok (.istore_n 3, 1) := by decide +kernel
theorem dM_contains_77 : decode cM_contains 77 = .ok (.iinc 5 1, 3) := by decide +kernel
theorem dM_contains_80 : decode cM_contains 80 = .ok (.goto (-52), 3) := by decide +kernel
theorem dM_contains_83 : decode cM_contains 83 = .ok (.iload_n 3, 1) := by decide +kernel
theorem dM_contains_84 : decode cM_contains 84 = .ok (.ireturn, 1) := by decide +kernel
theorem dM_normal_0 : decode cM_normal 0 = .ok (.iload_n 1, 1) := by decide +kernel
theorem dM_normal_1 : decode cM_normal 1 = .ok (.invokestatic 101, 3) := by decide +kernel
theorem dM_normal_4 : decode cM_normal 4 = .ok (.ifCond .ne 5, 3) := by decide +kernel
theorem dM_normal_7 : decode cM_normal 7 = .ok (.iconst 0, 1) := by decide +kernel
theorem dM_normal_8 : decode cM_normal 8 = .ok (.ireturn, 1) := by decide +kernel
theorem dM_normal_9 : decode cM_normal 9 = .ok (.iconst 1, 1) := by decide +kernel
theorem dM_normal_10 : decode cM_normal 10 = .ok (.istore_n 2, 1) := by decide +kernel
theorem dM_normal_11 : decode cM_normal 11 = .ok (.aload_n 0, 1) := by decide +kernel
theorem dM_normal_12 : decode cM_normal 12 = .ok (.iload_n 1, 1) := by decide +kernel
theorem dM_normal_13 : decode cM_normal 13 = .ok (.invokevirtual 162, 3) := by decide +kernel
theorem dM_normal_16 : decode cM_normal 16 = .ok (.istore_n 3, 1) := by decide +kernel
theorem dM_normal_17 : decode cM_normal 17 = .ok (.iconst 0, 1) := by decide +kernel
theorem dM_normal_18 : decode cM_normal 18 = .ok (.istore 4, 2) := by decide +kernel
theorem dM_normal_20 : decode cM_normal 20 = .ok (.iload 4, 2) := by decide +kernel
theorem dM_normal_22 : decode cM_normal 22 = .ok (.iconst 2, 1) := by decide +kernel
theorem dM_normal_23 : decode cM_normal 23 = .ok (.aload_n 0, 1) := by decide +kernel
theorem dM_normal_24 : decode cM_normal 24 = .ok (.getfield 58, 3) := by decide +kernel
theorem dM_normal_27 : decode cM_normal 27 = .ok (.imul, 1) := by decide +kernel
theorem dM_normal_28 : decode cM_normal 28 = .ok (.if_icmp .ge 89, 3) := by decide +kernel
theorem dM_normal_31 : decode cM_normal 31 = .ok (.iload_n 2, 1) := by decide +kernel
theorem dM_normal_32 : decode cM_normal 32 = .ok (.ifCond .eq 85, 3) := by decide +kernel
theorem dM_normal_35 : decode cM_normal 35 = .ok (.iconst 0, 1) := by decide +kernel
theorem dM_normal_36 : decode cM_normal 36 = .ok (.istore 5, 2) := by decide +kernel
theorem dM_normal_38 : decode cM_normal 38 = .ok (.iload 5, 2) := by decide +kernel
theorem dM_normal_40 : decode cM_normal 40 = .ok (.iload_n 3, 1) := by decide +kernel
theorem dM_normal_41 : decode cM_normal 41 = .ok (.if_icmp .ge 70, 3) := by decide +kernel
theorem dM_normal_44 : decode cM_normal 44 = .ok (.iload_n 2, 1) := by decide +kernel
theorem dM_normal_45 : decode cM_normal 45 = .ok (.ifCond .eq 66, 3) := by decide +kernel
theorem dM_normal_48 : decode cM_normal 48 = .ok (.aload_n 0, 1) := by decide +kernel
theorem dM_normal_49 : decode cM_normal 49 = .ok (.iload_n 1, 1) := by decide +kernel
theorem dM_normal_50 : decode cM_normal 50 = .ok (.iload 5, 2) := by decide +kernel
theorem dM_normal_52 : decode cM_normal 52 = .ok (.invokevirtual 155, 3) := by decide +kernel
theorem dM_normal_55 : decode cM_normal 55 = .ok (.istore 6, 2) := by decide +kernel
theorem dM_normal_57 : decode cM_normal 57 = .ok (.aload_n 0, 1) := by decide +kernel
theorem dM_normal_58 : decode cM_normal 58 = .ok (.iconst 0, 1) := by decide +kernel
theorem dM_normal_59 : decode cM_normal 59 = .ok (.putfield 146, 3) := by decide +kernel
theorem dM_normal_62 : decode cM_normal 62 = .ok (.aload_n 0, 1) := by decide +kernel
theorem dM_normal_63 : decode cM_normal 63 = .ok (.iload 4, 2) := by decide +kernel
theorem dM_normal_65 : decode cM_normal 65 = .ok (.invokestatic 124, 3) := by decide +kernel
theorem dM_normal_68 : decode cM_normal 68 = .ok (.ineg, 1) := by decide +kernel
theorem dM_normal_69 : decode cM_normal 69 = .ok (.invokevirtual 149, 3) := by decide +kernel
theorem dM_normal_72 : decode cM_normal 72 = .ok (.aload_n 0, 1) := by decide +kernel
theorem dM_normal_73 : decode cM_normal 73 = .ok (.iload_n 1, 1) := by decide +kernel
theorem dM_normal_74 : decode cM_normal 74 = .ok (.invokevirtual 159, 3) := by decide +kernel
theorem dM_normal_77 : decode cM_normal 77 = .ok (.aload_n 0, 1) := by decide +kernel
theorem dM_normal_78 : decode cM_normal 78 = .ok (.iload 4, 2) := by decide +kernel
theorem dM_normal_80 : decode cM_normal 80 = .ok (.invokestatic 124, 3) := by decide +kernel
theorem dM_normal_83 : decode cM_normal 83 = .ok (.invokevirtual 149, 3) := by decide +kernel
theorem dM_normal_86 : decode cM_normal 86 = .ok (.iload 6, 2) := by decide +kernel
theorem dM_normal_88 : decode cM_normal 88 = .ok (.ifCond .eq 15, 3) := by decide +kernel
theorem dM_normal_91 : decode cM_normal 91 = .ok (.aload_n 0, 1) := by decide +kernel
theorem dM_normal_92 : decode cM_normal 92 = .ok (.iload_n 1, 1) := by decide +kernel
theorem dM_normal_93 : decode cM_normal 93 = .ok (.invokevirtual 165, 3) := by decide +kernel
theorem dM_normal_96 : decode cM_normal 96 = .ok (.ifCond .eq 7, 3) := by decide +kernel
theorem dM_normal_99 : decode cM_normal 99 = .ok (.iconst 1, 1) := by decide +kernel
theorem dM_normal_100 : decode cM_normal 100 = .ok (.goto 4, 3) := by decide +kernel
theorem dM_normal_103 : decode cM_normal 103 = .ok (.iconst 0, 1) := by decide +kernel
theorem dM_normal_104 : decode cM_normal 104 = .ok (.istore_n 2, 1) := by decide +kernel
theorem dM_normal_105 : decode cM_normal 105 = .ok (.iinc 5 1, 3) := by decide +kernel
theorem dM_normal_108 : decode cM_normal 108 = .ok (.goto (-70), 3) := by decide +kernel
theorem dM_normal_111 : decode cM_normal 111 = .ok (.iinc 4 1, 3) := by decide +kernel
theorem dM_normal_114 : decode cM_normal 114 = .ok (.goto (-94), 3) := by decide +kernel
theorem dM_normal_117 : decode cM_normal 117 = .ok (.iload_n 2, 1) := by decide +kernel
theorem dM_normal_118 : decode cM_normal 118 = .ok (.ireturn, 1) := by decide +kernel
theorem dD_init_0 : decode cD_init 0 = .ok (.aload_n 0, 1) := by decide +kernel
theorem dD_init_1 : decode cD_init 1 = .ok (.invokespecial 3, 3) := by decide +kernel
theorem dD_init_4 : decode cD_init 4 = .ok (.aload_n 0, 1) := by decide +kernel
theorem dD_init_5 : decode cD_init 5 = .ok (.sipush 195, 3) := by decide +kernel
theorem dD_init_8 : decode cD_init 8 = .ok (.newarray .int, 2) := by decide +kernel
theorem dD_init_10 : decode cD_init 10 = .ok (.putfield 9, 3) := by decide +kernel
theorem dD_init_13 : decode cD_init 13 = .ok (.aload_n 0, 1) := by decide +kernel
theorem dD_init_14 : decode cD_init 14 = .ok (.sipush 195, 3) := by decide +kernel
theorem dD_init_17 : decode cD_init 17 = .ok (.newarray .int, 2) := by decide +kernel
theorem dD_init_19 : decode cD_init 19 = .ok (.putfield 15, 3) := by decide +kernel
theorem dD_init_22 : decode cD_init 22 = .ok (.aload_n 0, 1) := by decide +kernel
theorem dD_init_23 : decode cD_init 23 = .ok (.sipush 195, 3) := by decide +kernel
theorem dD_init_26 : decode cD_init 26 = .ok (.newarray .int, 2) := by decide +kernel
theorem dD_init_28 : decode cD_init 28 = .ok (.putfield 18, 3) := by decide +kernel
theorem dD_init_31 : decode cD_init 31 = .ok (.aload_n 0, 1) := by decide +kernel
theorem dD_init_32 : decode cD_init 32 = .ok (.bipush 64, 2) := by decide +kernel
theorem dD_init_34 : decode cD_init 34 = .ok (.newarray .int, 2) := by decide +kernel
theorem dD_init_36 : decode cD_init 36 = .ok (.putfield 21, 3) := by decide +kernel
theorem dD_init_39 : decode cD_init 39 = .ok (.aload_n 0, 1) := by decide +kernel
theorem dD_init_40 : decode cD_init 40 = .ok (.sipush 384, 3) := by decide +kernel
theorem dD_init_43 : decode cD_init 43 = .ok (.newarray .int, 2) := by decide +kernel
theorem dD_init_45 : decode cD_init 45 = .ok (.putfield 24, 3) := by decide +kernel
theorem dD_init_48 : decode cD_init 48 = .ok (.aload_n 0, 1) := by decide +kernel
theorem dD_init_49 : decode cD_init 49 = .ok (.bipush 64, 2) := by decide +kernel
theorem dD_init_51 : decode cD_init 51 = .ok (.newarray .int, 2) := by decide +kernel
theorem dD_init_53 : decode cD_init 53 = .ok (.putfield 27, 3) := by decide +kernel
theorem dD_init_56 : decode cD_init 56 = .ok (.aload_n 0, 1) := by decide +kernel
theorem dD_init_57 : decode cD_init 57 = .ok (.bipush 64, 2) := by decide +kernel
theorem dD_init_59 : decode cD_init 59 = .ok (.newarray .int, 2) := by decide +kernel
theorem dD_init_61 : decode cD_init 61 = .ok (.putfield 30, 3) := by decide +kernel
theorem dD_init_64 : decode cD_init 64 = .ok (.aload_n 0, 1) := by decide +kernel
theorem dD_init_65 : decode cD_init 65 = .ok (.bipush 64, 2) := by decide +kernel
theorem dD_init_67 : decode cD_init 67 = .ok (.newarray .int, 2) := by decide +kernel
theorem dD_init_69 : decode cD_init 69 = .ok (.putfield 33, 3) := by decide +kernel
theorem dD_init_72 : decode cD_init 72 = .ok (.aload_n 0, 1) := by decide +kernel
theorem dD_init_73 : decode cD_init 73 = .ok (.bipush 64, 2) := by decide +kernel
theorem dD_init_75 : decode cD_init 75 = .ok (.newarray .int, 2) := by decide +kernel
theorem dD_init_77 : decode cD_init 77 = .ok (.putfield 36, 3) := by decide +kernel
theorem dD_init_80 : decode cD_init 80 = .ok (.return_, 1) := by decide +kernel
theorem dD_begin_0 : decode cD_begin 0 = .ok (.aload_n 0, 1) := by decide +kernel
theorem dD_begin_1 : decode cD_begin 1 = .ok (.iconst 1, 1) := by decide +kernel
theorem dD_begin_2 : decode cD_begin 2 = .ok (.putfield 39, 3) := by decide +kernel
theorem dD_begin_5 : decode cD_begin 5 = .ok (.aload_n 0, 1) := by decide +kernel
theorem dD_begin_6 : decode cD_begin 6 = .ok (.iconst 0, 1) := by decide +kernel
theorem dD_begin_7 : decode cD_begin 7 = .ok (.putfield 43, 3) := by decide +kernel
theorem dD_begin_10 : decode cD_begin 10 = .ok (.aload_n 0, 1) := by decide +kernel
theorem dD_begin_11 : decode cD_begin 11 = .ok (.iconst 0, 1) := by decide +kernel
theorem dD_begin_12 : decode cD_begin 12 = .ok (.putfield 46, 3) := by decide +kernel
theorem dD_begin_15 : decode cD_begin 15 = .ok (.aload_n 0, 1) := by decide +kernel
theorem dD_begin_16 : decode cD_begin 16 = .ok (.getfield 24, 3) := by decide +kernel
theorem dD_begin_19 : decode cD_begin 19 = .ok (.iconst (-1), 1) := by decide +kernel
theorem dD_begin_20 : decode cD_begin 20 = .ok (.invokestatic 49, 3) := by decide +kernel
theorem dD_begin_23 : decode cD_begin 23 = .ok (.return_, 1) := by decide +kernel
theorem dD_addEdge_0 : decode cD_addEdge 0 = .ok (.aload_n 0, 1) := by decide +kernel
theorem dD_addEdge_1 : decode cD_addEdge 1 = .ok (.getfield 46, 3) := by decide +kernel
theorem dD_addEdge_4 : decode cD_addEdge 4 = .ok (.sipush 195, 3) := by decide +kernel
theorem dD_addEdge_7 : decode cD_addEdge 7 = .ok (.if_icmp .ge 43, 3) := by decide +kernel
theorem dD_addEdge_10 : decode cD_addEdge 10 = .ok (.aload_n 0, 1) := by decide +kernel
theorem dD_addEdge_11 : decode cD_addEdge 11 = .ok (.getfield 9, 3) := by decide +kernel
theorem dD_addEdge_14 : decode cD_addEdge 14 = .ok (.aload_n 0, 1) := by decide +kernel
theorem dD_addEdge_15 : decode cD_addEdge 15 = .ok (.getfield 46, 3) := by decide +kernel
theorem dD_addEdge_18 : decode cD_addEdge 18 = .ok (.iload_n 1, 1) := by decide +kernel
theorem dD_addEdge_19 : decode cD_addEdge 19 = .ok (.iastore, 1) := by decide +kernel
theorem dD_addEdge_20 : decode cD_addEdge 20 = .ok (.aload_n 0, 1) := by decide +kernel
theorem dD_addEdge_21 : decode cD_addEdge 21 = .ok (.getfield 15, 3) := by decide +kernel
theorem dD_addEdge_24 : decode cD_addEdge 24 = .ok (.aload_n 0, 1) := by decide +kernel
theorem dD_addEdge_25 : decode cD_addEdge 25 = .ok (.getfield 46, 3) := by decide +kernel
theorem dD_addEdge_28 : decode cD_addEdge 28 = .ok (.iload_n 2, 1) := by decide +kernel
theorem dD_addEdge_29 : decode cD_addEdge 29 = .ok (.iastore, 1) := by decide +kernel
theorem dD_addEdge_30 : decode cD_addEdge 30 = .ok (.aload_n 0, 1) := by decide +kernel
theorem dD_addEdge_31 : decode cD_addEdge 31 = .ok (.getfield 18, 3) := by decide +kernel
theorem dD_addEdge_34 : decode cD_addEdge 34 = .ok (.aload_n 0, 1) := by decide +kernel
theorem dD_addEdge_35 : decode cD_addEdge 35 = .ok (.getfield 46, 3) := by decide +kernel
theorem dD_addEdge_38 : decode cD_addEdge 38 = .ok (.iload_n 3, 1) := by decide +kernel
theorem dD_addEdge_39 : decode cD_addEdge 39 = .ok (.iastore, 1) := by decide +kernel
theorem dD_addEdge_40 : decode cD_addEdge 40 = .ok (.aload_n 0, 1) := by decide +kernel
theorem dD_addEdge_41 : decode cD_addEdge 41 = .ok (.dup, 1) := by decide +kernel
theorem dD_addEdge_42 : decode cD_addEdge 42 = .ok (.getfield 46, 3) := by decide +kernel
theorem dD_addEdge_45 : decode cD_addEdge 45 = .ok (.iconst 1, 1) := by decide +kernel
theorem dD_addEdge_46 : decode cD_addEdge 46 = .ok (.iadd, 1) := by decide +kernel
theorem dD_addEdge_47 : decode cD_addEdge 47 = .ok (.putfield 46, 3) := by decide +kernel
theorem dD_addEdge_50 : decode cD_addEdge 50 = .ok (.return_, 1) := by decide +kernel
theorem dD_addCopy_0 : decode cD_addCopy 0 = .ok (.aload_n 0, 1) := by decide +kernel
theorem dD_addCopy_1 : decode cD_addCopy 1 = .ok (.getfield 39, 3) := by decide +kernel
theorem dD_addCopy_4 : decode cD_addCopy 4 = .ok (.iconst 1, 1) := by decide +kernel
theorem dD_addCopy_5 : decode cD_addCopy 5 = .ok (.isub, 1) := by decide +kernel
theorem dD_addCopy_6 : decode cD_addCopy 6 = .ok (.istore_n 2, 1) := by decide +kernel
theorem dD_addCopy_7 : decode cD_addCopy 7 = .ok (.iconst 0, 1) := by decide +kernel
theorem dD_addCopy_8 : decode cD_addCopy 8 = .ok (.istore_n 3, 1) := by decide +kernel
theorem dD_addCopy_9 : decode cD_addCopy 9 = .ok (.iload_n 3, 1) := by decide +kernel
theorem dD_addCopy_10 : decode cD_addCopy 10 = .ok (.aload_n 1, 1) := by decide +kernel
theorem dD_addCopy_11 : decode cD_addCopy 11 = .ok (.getfield 55, 3) := by decide +kernel
theorem dD_addCopy_14 : decode cD_addCopy 14 = .ok (.if_icmp .ge 70, 3) := by decide +kernel
theorem dD_addCopy_17 : decode cD_addCopy 17 = .ok (.iconst 0, 1) := by decide +kernel
theorem dD_addCopy_18 : decode cD_addCopy 18 = .ok (.istore 4, 2) := by decide +kernel
theorem dD_addCopy_20 : decode cD_addCopy 20 = .ok (.iload 4, 2) := by decide +kernel
theorem dD_addCopy_22 : decode cD_addCopy 22 = .ok (.bipush 6, 2) := by decide +kernel
theorem dD_addCopy_24 : decode cD_addCopy 24 = .ok (.if_icmp .ge 54, 3) := by decide +kernel
theorem dD_addCopy_27 : decode cD_addCopy 27 = .ok (.aload_n 1, 1) := by decide +kernel
theorem dD_addCopy_28 : decode cD_addCopy 28 = .ok (.iload_n 3, 1) := by decide +kernel
theorem dD_addCopy_29 : decode cD_addCopy 29 = .ok (.iload 4, 2) := by decide +kernel
theorem dD_addCopy_31 : decode cD_addCopy 31 = .ok (.invokevirtual 58, 3) := by decide +kernel
theorem dD_addCopy_34 : decode cD_addCopy 34 = .ok (.istore 5, 2) := by decide +kernel
theorem dD_addCopy_36 : decode cD_addCopy 36 = .ok (.iload 5, 2) := by decide +kernel
theorem dD_addCopy_38 : decode cD_addCopy 38 = .ok (.iconst (-1), 1) := by decide +kernel
theorem dD_addCopy_39 : decode cD_addCopy 39 = .ok (.if_icmp .eq 33, 3) := by decide +kernel
theorem dD_addCopy_42 : decode cD_addCopy 42 = .ok (.aload_n 0, 1) := by decide +kernel
theorem dD_addCopy_43 : decode cD_addCopy 43 = .ok (.iload_n 3, 1) := by decide +kernel
theorem dD_addCopy_44 : decode cD_addCopy 44 = .ok (.ifCond .ne 7, 3) := by decide +kernel
theorem dD_addCopy_47 : decode cD_addCopy 47 = .ok (.iconst 0, 1) := by decide +kernel
theorem dD_addCopy_48 : decode cD_addCopy 48 = .ok (.goto 6, 3) := by decide +kernel
theorem dD_addCopy_51 : decode cD_addCopy 51 = .ok (.iload_n 3, 1) := by decide +kernel
theorem dD_addCopy_52 : decode cD_addCopy 52 = .ok (.iload_n 2, 1) := by decide +kernel
theorem dD_addCopy_53 : decode cD_addCopy 53 = .ok (.iadd, 1) := by decide +kernel
theorem dD_addCopy_54 : decode cD_addCopy 54 = .ok (.iload 4, 2) := by decide +kernel
theorem dD_addCopy_56 : decode cD_addCopy 56 = .ok (.iload 5, 2) := by decide +kernel
theorem dD_addCopy_58 : decode cD_addCopy 58 = .ok (.ifCond .ne 7, 3) := by decide +kernel
theorem dD_addCopy_61 : decode cD_addCopy 61 = .ok (.iconst 0, 1) := by decide +kernel
theorem dD_addCopy_62 : decode cD_addCopy 62 = .ok (.goto 7, 3) := by decide +kernel
theorem dD_addCopy_65 : decode cD_addCopy 65 = .ok (.iload 5, 2) := by decide +kernel
theorem dD_addCopy_67 : decode cD_addCopy 67 = .ok (.iload_n 2, 1) := by decide +kernel
theorem dD_addCopy_68 : decode cD_addCopy 68 = .ok (.iadd, 1) := by decide +kernel
theorem dD_addCopy_69 : decode cD_addCopy 69 = .ok (.invokevirtual 62, 3) := by decide +kernel
theorem dD_addCopy_72 : decode cD_addCopy 72 = .ok (.iinc 4 2, 3) := by decide +kernel
theorem dD_addCopy_75 : decode cD_addCopy 75 = .ok (.goto (-55), 3) := by decide +kernel
theorem dD_addCopy_78 : decode cD_addCopy 78 = .ok (.iinc 3 1, 3) := by decide +kernel
theorem dD_addCopy_81 : decode cD_addCopy 81 = .ok (.goto (-72), 3) := by decide +kernel
theorem dD_addCopy_84 : decode cD_addCopy 84 = .ok (.aload_n 0, 1) := by decide +kernel
theorem dD_addCopy_85 : decode cD_addCopy 85 = .ok (.dup, 1) := by decide +kernel
theorem dD_addCopy_86 : decode cD_addCopy 86 = .ok (.getfield 39, 3) := by decide +kernel
theorem dD_addCopy_89 : decode cD_addCopy 89 = .ok (.aload_n 1, 1) := by decide +kernel
theorem dD_addCopy_90 : decode cD_addCopy 90 = .ok (.getfield 55, 3) := by decide +kernel
theorem dD_addCopy_93 : decode cD_addCopy 93 = .ok (.iconst 1, 1) := by decide +kernel
theorem dD_addCopy_94 : decode cD_addCopy 94 = .ok (.isub, 1) := by decide +kernel
theorem dD_addCopy_95 : decode cD_addCopy 95 = .ok (.iadd, 1) := by decide +kernel
theorem dD_addCopy_96 : decode cD_addCopy 96 = .ok (.putfield 39, 3) := by decide +kernel
theorem dD_addCopy_99 : decode cD_addCopy 99 = .ok (.return_, 1) := by decide +kernel
theorem dD_addRing_0 : decode cD_addRing 0 = .ok (.aload_n 1, 1) := by decide +kernel
theorem dD_addRing_1 : decode cD_addRing 1 = .ok (.getfield 66, 3) := by decide +kernel
theorem dD_addRing_4 : decode cD_addRing 4 = .ok (.ifCond .le 35, 3) := by decide +kernel
theorem dD_addRing_7 : decode cD_addRing 7 = .ok (.aload_n 0, 1) := by decide +kernel
theorem dD_addRing_8 : decode cD_addRing 8 = .ok (.aload_n 1, 1) := by decide +kernel
theorem dD_addRing_9 : decode cD_addRing 9 = .ok (.aload_n 1, 1) := by decide +kernel
theorem dD_addRing_10 : decode cD_addRing 10 = .ok (.getfield 66, 3) := by decide +kernel
theorem dD_addRing_13 : decode cD_addRing 13 = .ok (.iconst 1, 1) := by decide +kernel
theorem dD_addRing_14 : decode cD_addRing 14 = .ok (.isub, 1) := by decide +kernel
theorem dD_addRing_15 : decode cD_addRing 15 = .ok (.invokevirtual 69, 3) := by decide +kernel
theorem dD_addRing_18 : decode cD_addRing 18 = .ok (.istore_n 2, 1) := by decide +kernel
theorem dD_addRing_19 : decode cD_addRing 19 = .ok (.aload_n 0, 1) := by decide +kernel
theorem dD_addRing_20 : decode cD_addRing 20 = .ok (.iload_n 2, 1) := by decide +kernel
theorem dD_addRing_21 : decode cD_addRing 21 = .ok (.aload_n 1, 1) := by decide +kernel
theorem dD_addRing_22 : decode cD_addRing 22 = .ok (.getfield 73, 3) := by decide +kernel
theorem dD_addRing_25 : decode cD_addRing 25 = .ok (.aload_n 1, 1) := by decide +kernel
theorem dD_addRing_26 : decode cD_addRing 26 = .ok (.getfield 66, 3) := by decide +kernel
theorem dD_addRing_29 : decode cD_addRing 29 = .ok (.iconst 1, 1) := by decide +kernel
theorem dD_addRing_30 : decode cD_addRing 30 = .ok (.isub, 1) := by decide +kernel
theorem dD_addRing_31 : decode cD_addRing 31 = .ok (.iaload, 1) := by decide +kernel
theorem dD_addRing_32 : decode cD_addRing 32 = .ok (.invokestatic 76, 3) := by decide +kernel
theorem dD_addRing_35 : decode cD_addRing 35 = .ok (.iconst 0, 1) := by decide +kernel
theorem dD_addRing_36 : decode cD_addRing 36 = .ok (.invokevirtual 62, 3) := by decide +kernel
theorem dD_addRing_39 : decode cD_addRing 39 = .ok (.return_, 1) := by decide +kernel
theorem dD_moveBaseAlong_0 : decode cD_moveBaseAlong 0 = .ok (.aload_n 0, 1) := by decide +kernel
theorem dD_moveBaseAlong_1 : decode cD_moveBaseAlong 1 = .ok (.aload_n 0, 1) := by decide +kernel
theorem dD_moveBaseAlong_2 : decode cD_moveBaseAlong 2 = .ok (.aload_n 1, 1) := by decide +kernel
theorem dD_moveBaseAlong_3 : decode cD_moveBaseAlong 3 = .ok (.aload_n 1, 1) := by decide +kernel
theorem dD_moveBaseAlong_4 : decode cD_moveBaseAlong 4 = .ok (.getfield 66, 3) := by decide +kernel
theorem dD_moveBaseAlong_7 : decode cD_moveBaseAlong 7 = .ok (.invokevirtual 69, 3) := by decide +kernel
theorem dD_moveBaseAlong_10 : decode cD_moveBaseAlong 10 = .ok (.putfield 43, 3) := by decide +kernel
theorem dD_moveBaseAlong_13 : decode cD_moveBaseAlong 13 = .ok (.return_, 1) := by decide +kernel
theorem dD_addRow_0 : decode cD_addRow 0 = .ok (.iconst 0, 1) := by decide +kernel
theorem dD_addRow_1 : decode cD_addRow 1 = .ok (.istore_n 3, 1) := by decide +kernel
theorem dD_addRow_2 : decode cD_addRow 2 = .ok (.iconst 0, 1) := by decide +kernel
theorem dD_addRow_3 : decode cD_addRow 3 = .ok (.istore 4, 2) := by decide +kernel
theorem dD_addRow_5 : decode cD_addRow 5 = .ok (.iload 4, 2) := by decide +kernel
theorem dD_addRow_7 : decode cD_addRow 7 = .ok (.iload_n 2, 1) := by decide +kernel
theorem dD_addRow_8 : decode cD_addRow 8 = .ok (.if_icmp .ge 43, 3) := by decide +kernel
theorem dD_addRow_11 : decode cD_addRow 11 = .ok (.aload_n 0, 1) := by decide +kernel
theorem dD_addRow_12 : decode cD_addRow 12 = .ok (.iload_n 3, 1) := by decide +kernel
theorem dD_addRow_13 : decode cD_addRow 13 = .ok (.aload_n 1, 1) := by decide +kernel
theorem dD_addRow_14 : decode cD_addRow 14 = .ok (.getfield 73, 3) := by decide +kernel
theorem dD_addRow_17 : decode cD_addRow 17 = .ok (.iload 4, 2) := by decide +kernel
theorem dD_addRow_19 : decode cD_addRow 19 = .ok (.iaload, 1) := by decide +kernel
theorem dD_addRow_20 : decode cD_addRow 20 = .ok (.invokestatic 76, 3) := by decide +kernel
theorem dD_addRow_23 : decode cD_addRow 23 = .ok (.aload_n 0, 1) := by decide +kernel
theorem dD_addRow_24 : decode cD_addRow 24 = .ok (.getfield 39, 3) := by decide +kernel
theorem dD_addRow_27 : decode cD_addRow 27 = .ok (.invokevirtual 62, 3) := by decide +kernel
theorem dD_addRow_30 : decode cD_addRow 30 = .ok (.aload_n 0, 1) := by decide +kernel
theorem dD_addRow_31 : decode cD_addRow 31 = .ok (.getfield 39, 3) := by decide +kernel
theorem dD_addRow_34 : decode cD_addRow 34 = .ok (.istore_n 3, 1) := by decide +kernel
theorem dD_addRow_35 : decode cD_addRow 35 = .ok (.aload_n 0, 1) := by decide +kernel
theorem dD_addRow_36 : decode cD_addRow 36 = .ok (.dup, 1) := by decide +kernel
theorem dD_addRow_37 : decode cD_addRow 37 = .ok (.getfield 39, 3) := by decide +kernel
theorem dD_addRow_40 : decode cD_addRow 40 = .ok (.iconst 1, 1) := by decide +kernel
theorem dD_addRow_41 : decode cD_addRow 41 = .ok (.iadd, 1) := by decide +kernel
theorem dD_addRow_42 : decode cD_addRow 42 = .ok (.putfield 39, 3) := by decide +kernel
theorem dD_addRow_45 : decode cD_addRow 45 = .ok (.iinc 4 1, 3) := by decide +kernel
theorem dD_addRow_48 : decode cD_addRow 48 = .ok (.goto (-43), 3) := by decide +kernel
theorem dD_addRow_51 : decode cD_addRow 51 = .ok (.iload_n 3, 1) := by decide +kernel
end
section
theorem dD_addRow_52 : decode cD_addRow 52 = .ok (.ireturn, 1) := by decide +kernel
theorem dD_fold_0 : decode cD_fold 0 = .ok (.iconst 0, 1) := by decide +kernel
theorem dD_fold_1 : decode cD_fold 1 = .ok (.istore_n 1, 1) := by decide +kernel
theorem dD_fold_2 : decode cD_fold 2 = .ok (.iload_n 1, 1) := by decide +kernel
theorem dD_fold_3 : decode cD_fold 3 = .ok (.aload_n 0, 1) := by decide +kernel
theorem dD_fold_4 : decode cD_fold 4 = .ok (.getfield 39, 3) := by decide +kernel
theorem dD_fold_7 : decode cD_fold 7 = .ok (.if_icmp .ge 16, 3) := by decide +kernel
theorem dD_fold_10 : decode cD_fold 10 = .ok (.aload_n 0, 1) := by decide +kernel
theorem dD_fold_11 : decode cD_fold 11 = .ok (.getfield 21, 3) := by decide +kernel
theorem dD_fold_14 : decode cD_fold 14 = .ok (.iload_n 1, 1) := by decide +kernel
theorem dD_fold_15 : decode cD_fold 15 = .ok (.iload_n 1, 1) := by decide +kernel
theorem dD_fold_16 : decode cD_fold 16 = .ok (.iastore, 1) := by decide +kernel
theorem dD_fold_17 : decode cD_fold 17 = .ok (.iinc 1 1, 3) := by decide +kernel
theorem dD_fold_20 : decode cD_fold 20 = .ok (.goto (-18), 3) := by decide +kernel
theorem dD_fold_23 : decode cD_fold 23 = .ok (.iconst 1, 1) := by decide +kernel
theorem dD_fold_24 : decode cD_fold 24 = .ok (.istore_n 1, 1) := by decide +kernel
theorem dD_fold_25 : decode cD_fold 25 = .ok (.iconst 0, 1) := by decide +kernel
theorem dD_fold_26 : decode cD_fold 26 = .ok (.istore_n 2, 1) := by decide +kernel
theorem dD_fold_27 : decode cD_fold 27 = .ok (.iload_n 2, 1) := by decide +kernel
theorem dD_fold_28 : decode cD_fold 28 = .ok (.bipush 64, 2) := by decide +kernel
theorem dD_fold_30 : decode cD_fold 30 = .ok (.if_icmp .ge 109, 3) := by decide +kernel
theorem dD_fold_33 : decode cD_fold 33 = .ok (.iload_n 1, 1) := by decide +kernel
theorem dD_fold_34 : decode cD_fold 34 = .ok (.ifCond .eq 105, 3) := by decide +kernel
theorem dD_fold_37 : decode cD_fold 37 = .ok (.iconst 0, 1) := by decide +kernel
theorem dD_fold_38 : decode cD_fold 38 = .ok (.istore_n 1, 1) := by decide +kernel
theorem dD_fold_39 : decode cD_fold 39 = .ok (.aload_n 0, 1) := by decide +kernel
theorem dD_fold_40 : decode cD_fold 40 = .ok (.getfield 24, 3) := by decide +kernel
theorem dD_fold_43 : decode cD_fold 43 = .ok (.iconst (-1), 1) := by decide +kernel
theorem dD_fold_44 : decode cD_fold 44 = .ok (.invokestatic 49, 3) := by decide +kernel
theorem dD_fold_47 : decode cD_fold 47 = .ok (.iconst 0, 1) := by decide +kernel
theorem dD_fold_48 : decode cD_fold 48 = .ok (.istore_n 3, 1) := by decide +kernel
theorem dD_fold_49 : decode cD_fold 49 = .ok (.iload_n 3, 1) := by decide +kernel
theorem dD_fold_50 : decode cD_fold 50 = .ok (.aload_n 0, 1) := by decide +kernel
theorem dD_fold_51 : decode cD_fold 51 = .ok (.getfield 46, 3) := by decide +kernel
theorem dD_fold_54 : decode cD_fold 54 = .ok (.if_icmp .ge 79, 3) := by decide +kernel
theorem dD_fold_57 : decode cD_fold 57 = .ok (.aload_n 0, 1) := by decide +kernel
theorem dD_fold_58 : decode cD_fold 58 = .ok (.aload_n 0, 1) := by decide +kernel
theorem dD_fold_59 : decode cD_fold 59 = .ok (.getfield 9, 3) := by decide +kernel
theorem dD_fold_62 : decode cD_fold 62 = .ok (.iload_n 3, 1) := by decide +kernel
theorem dD_fold_63 : decode cD_fold 63 = .ok (.iaload, 1) := by decide +kernel
theorem dD_fold_64 : decode cD_fold 64 = .ok (.aload_n 0, 1) := by decide +kernel
theorem dD_fold_65 : decode cD_fold 65 = .ok (.getfield 15, 3) := by decide +kernel
theorem dD_fold_68 : decode cD_fold 68 = .ok (.iload_n 3, 1) := by decide +kernel
theorem dD_fold_69 : decode cD_fold 69 = .ok (.iaload, 1) := by decide +kernel
theorem dD_fold_70 : decode cD_fold 70 = .ok (.aload_n 0, 1) := by decide +kernel
theorem dD_fold_71 : decode cD_fold 71 = .ok (.getfield 18, 3) := by decide +kernel
theorem dD_fold_74 : decode cD_fold 74 = .ok (.iload_n 3, 1) := by decide +kernel
theorem dD_fold_75 : decode cD_fold 75 = .ok (.iaload, 1) := by decide +kernel
theorem dD_fold_76 : decode cD_fold 76 = .ok (.invokevirtual 80, 3) := by decide +kernel
theorem dD_fold_79 : decode cD_fold 79 = .ok (.istore 4, 2) := by decide +kernel
theorem dD_fold_81 : decode cD_fold 81 = .ok (.aload_n 0, 1) := by decide +kernel
theorem dD_fold_82 : decode cD_fold 82 = .ok (.aload_n 0, 1) := by decide +kernel
theorem dD_fold_83 : decode cD_fold 83 = .ok (.getfield 18, 3) := by decide +kernel
theorem dD_fold_86 : decode cD_fold 86 = .ok (.iload_n 3, 1) := by decide +kernel
theorem dD_fold_87 : decode cD_fold 87 = .ok (.iaload, 1) := by decide +kernel
theorem dD_fold_88 : decode cD_fold 88 = .ok (.aload_n 0, 1) := by decide +kernel
theorem dD_fold_89 : decode cD_fold 89 = .ok (.getfield 15, 3) := by decide +kernel
theorem dD_fold_92 : decode cD_fold 92 = .ok (.iload_n 3, 1) := by decide +kernel
theorem dD_fold_93 : decode cD_fold 93 = .ok (.iaload, 1) := by decide +kernel
theorem dD_fold_94 : decode cD_fold 94 = .ok (.iconst 1, 1) := by decide +kernel
theorem dD_fold_95 : decode cD_fold 95 = .ok (.ixor, 1) := by decide +kernel
theorem dD_fold_96 : decode cD_fold 96 = .ok (.aload_n 0, 1) := by decide +kernel
theorem dD_fold_97 : decode cD_fold 97 = .ok (.getfield 9, 3) := by decide +kernel
theorem dD_fold_100 : decode cD_fold 100 = .ok (.iload_n 3, 1) := by decide +kernel
theorem dD_fold_101 : decode cD_fold 101 = .ok (.iaload, 1) := by decide +kernel
theorem dD_fold_102 : decode cD_fold 102 = .ok (.invokevirtual 80, 3) := by decide +kernel
theorem dD_fold_105 : decode cD_fold 105 = .ok (.istore 5, 2) := by decide +kernel
theorem dD_fold_107 : decode cD_fold 107 = .ok (.iload_n 1, 1) := by decide +kernel
theorem dD_fold_108 : decode cD_fold 108 = .ok (.ifCond .ne 13, 3) := by decide +kernel
theorem dD_fold_111 : decode cD_fold 111 = .ok (.iload 4, 2) := by decide +kernel
theorem dD_fold_113 : decode cD_fold 113 = .ok (.ifCond .ne 8, 3) := by decide +kernel
theorem dD_fold_116 : decode cD_fold 116 = .ok (.iload 5, 2) := by decide +kernel
theorem dD_fold_118 : decode cD_fold 118 = .ok (.ifCond .eq 7, 3) := by decide +kernel
theorem dD_fold_121 : decode cD_fold 121 = .ok (.iconst 1, 1) := by decide +kernel
theorem dD_fold_122 : decode cD_fold 122 = .ok (.goto 4, 3) := by decide +kernel
theorem dD_fold_125 : decode cD_fold 125 = .ok (.iconst 0, 1) := by decide +kernel
theorem dD_fold_126 : decode cD_fold 126 = .ok (.istore_n 1, 1) := by decide +kernel
theorem dD_fold_127 : decode cD_fold 127 = .ok (.iinc 3 1, 3) := by decide +kernel
theorem dD_fold_130 : decode cD_fold 130 = .ok (.goto (-81), 3) := by decide +kernel
theorem dD_fold_133 : decode cD_fold 133 = .ok (.iinc 2 1, 3) := by decide +kernel
theorem dD_fold_136 : decode cD_fold 136 = .ok (.goto (-109), 3) := by decide +kernel
theorem dD_fold_139 : decode cD_fold 139 = .ok (.aload_n 0, 1) := by decide +kernel
theorem dD_fold_140 : decode cD_fold 140 = .ok (.aload_n 0, 1) := by decide +kernel
theorem dD_fold_141 : decode cD_fold 141 = .ok (.getfield 21, 3) := by decide +kernel
theorem dD_fold_144 : decode cD_fold 144 = .ok (.aload_n 0, 1) := by decide +kernel
theorem dD_fold_145 : decode cD_fold 145 = .ok (.getfield 43, 3) := by decide +kernel
theorem dD_fold_148 : decode cD_fold 148 = .ok (.iaload, 1) := by decide +kernel
theorem dD_fold_149 : decode cD_fold 149 = .ok (.putfield 43, 3) := by decide +kernel
theorem dD_fold_152 : decode cD_fold 152 = .ok (.return_, 1) := by decide +kernel
theorem dD_layWay_0 : decode cD_layWay 0 = .ok (.aload_n 0, 1) := by decide +kernel
theorem dD_layWay_1 : decode cD_layWay 1 = .ok (.getfield 21, 3) := by decide +kernel
theorem dD_layWay_4 : decode cD_layWay 4 = .ok (.iload_n 1, 1) := by decide +kernel
theorem dD_layWay_5 : decode cD_layWay 5 = .ok (.iaload, 1) := by decide +kernel
theorem dD_layWay_6 : decode cD_layWay 6 = .ok (.bipush 6, 2) := by decide +kernel
theorem dD_layWay_8 : decode cD_layWay 8 = .ok (.imul, 1) := by decide +kernel
theorem dD_layWay_9 : decode cD_layWay 9 = .ok (.iload_n 2, 1) := by decide +kernel
theorem dD_layWay_10 : decode cD_layWay 10 = .ok (.iadd, 1) := by decide +kernel
theorem dD_layWay_11 : decode cD_layWay 11 = .ok (.istore 4, 2) := by decide +kernel
theorem dD_layWay_13 : decode cD_layWay 13 = .ok (.aload_n 0, 1) := by decide +kernel
theorem dD_layWay_14 : decode cD_layWay 14 = .ok (.getfield 24, 3) := by decide +kernel
theorem dD_layWay_17 : decode cD_layWay 17 = .ok (.iload 4, 2) := by decide +kernel
theorem dD_layWay_19 : decode cD_layWay 19 = .ok (.iaload, 1) := by decide +kernel
theorem dD_layWay_20 : decode cD_layWay 20 = .ok (.iconst (-1), 1) := by decide +kernel
theorem dD_layWay_21 : decode cD_layWay 21 = .ok (.if_icmp .ne 18, 3) := by decide +kernel
theorem dD_layWay_24 : decode cD_layWay 24 = .ok (.aload_n 0, 1) := by decide +kernel
theorem dD_layWay_25 : decode cD_layWay 25 = .ok (.getfield 24, 3) := by decide +kernel
theorem dD_layWay_28 : decode cD_layWay 28 = .ok (.iload 4, 2) := by decide +kernel
theorem dD_layWay_30 : decode cD_layWay 30 = .ok (.aload_n 0, 1) := by decide +kernel
theorem dD_layWay_31 : decode cD_layWay 31 = .ok (.getfield 21, 3) := by decide +kernel
theorem dD_layWay_34 : decode cD_layWay 34 = .ok (.iload_n 3, 1) := by decide +kernel
theorem dD_layWay_35 : decode cD_layWay 35 = .ok (.iaload, 1) := by decide +kernel
theorem dD_layWay_36 : decode cD_layWay 36 = .ok (.iastore, 1) := by decide +kernel
theorem dD_layWay_37 : decode cD_layWay 37 = .ok (.iconst 0, 1) := by decide +kernel
theorem dD_layWay_38 : decode cD_layWay 38 = .ok (.ireturn, 1) := by decide +kernel
theorem dD_layWay_39 : decode cD_layWay 39 = .ok (.aload_n 0, 1) := by decide +kernel
theorem dD_layWay_40 : decode cD_layWay 40 = .ok (.getfield 21, 3) := by decide +kernel
theorem dD_layWay_43 : decode cD_layWay 43 = .ok (.aload_n 0, 1) := by decide +kernel
theorem dD_layWay_44 : decode cD_layWay 44 = .ok (.getfield 24, 3) := by decide +kernel
theorem dD_layWay_47 : decode cD_layWay 47 = .ok (.iload 4, 2) := by decide +kernel
theorem dD_layWay_49 : decode cD_layWay 49 = .ok (.iaload, 1) := by decide +kernel
theorem dD_layWay_50 : decode cD_layWay 50 = .ok (.iaload, 1) := by decide +kernel
theorem dD_layWay_51 : decode cD_layWay 51 = .ok (.istore 5, 2) := by decide +kernel
theorem dD_layWay_53 : decode cD_layWay 53 = .ok (.iload 5, 2) := by decide +kernel
theorem dD_layWay_55 : decode cD_layWay 55 = .ok (.aload_n 0, 1) := by decide +kernel
theorem dD_layWay_56 : decode cD_layWay 56 = .ok (.getfield 21, 3) := by decide +kernel
theorem dD_layWay_59 : decode cD_layWay 59 = .ok (.iload_n 3, 1) := by decide +kernel
theorem dD_layWay_60 : decode cD_layWay 60 = .ok (.iaload, 1) := by decide +kernel
theorem dD_layWay_61 : decode cD_layWay 61 = .ok (.if_icmp .ne 5, 3) := by decide +kernel
theorem dD_layWay_64 : decode cD_layWay 64 = .ok (.iconst 0, 1) := by decide +kernel
theorem dD_layWay_65 : decode cD_layWay 65 = .ok (.ireturn, 1) := by decide +kernel
theorem dD_layWay_66 : decode cD_layWay 66 = .ok (.aload_n 0, 1) := by decide +kernel
theorem dD_layWay_67 : decode cD_layWay 67 = .ok (.iload 5, 2) := by decide +kernel
theorem dD_layWay_69 : decode cD_layWay 69 = .ok (.aload_n 0, 1) := by decide +kernel
theorem dD_layWay_70 : decode cD_layWay 70 = .ok (.getfield 21, 3) := by decide +kernel
theorem dD_layWay_73 : decode cD_layWay 73 = .ok (.iload_n 3, 1) := by decide +kernel
theorem dD_layWay_74 : decode cD_layWay 74 = .ok (.iaload, 1) := by decide +kernel
theorem dD_layWay_75 : decode cD_layWay 75 = .ok (.invokevirtual 84, 3) := by decide +kernel
theorem dD_layWay_78 : decode cD_layWay 78 = .ok (.iconst 1, 1) := by decide +kernel
theorem dD_layWay_79 : decode cD_layWay 79 = .ok (.ireturn, 1) := by decide +kernel
theorem dD_unite_0 : decode cD_unite 0 = .ok (.iconst 0, 1) := by decide +kernel
theorem dD_unite_1 : decode cD_unite 1 = .ok (.istore_n 3, 1) := by decide +kernel
theorem dD_unite_2 : decode cD_unite 2 = .ok (.iload_n 3, 1) := by decide +kernel
theorem dD_unite_3 : decode cD_unite 3 = .ok (.aload_n 0, 1) := by decide +kernel
theorem dD_unite_4 : decode cD_unite 4 = .ok (.getfield 39, 3) := by decide +kernel
theorem dD_unite_7 : decode cD_unite 7 = .ok (.if_icmp .ge 26, 3) := by decide +kernel
theorem dD_unite_10 : decode cD_unite 10 = .ok (.aload_n 0, 1) := by decide +kernel
theorem dD_unite_11 : decode cD_unite 11 = .ok (.getfield 21, 3) := by decide +kernel
theorem dD_unite_14 : decode cD_unite 14 = .ok (.iload_n 3, 1) := by decide +kernel
theorem dD_unite_15 : decode cD_unite 15 = .ok (.iaload, 1) := by decide +kernel
theorem dD_unite_16 : decode cD_unite 16 = .ok (.iload_n 2, 1) := by decide +kernel
theorem dD_unite_17 : decode cD_unite 17 = .ok (.if_icmp .ne 10, 3) := by decide +kernel
theorem dD_unite_20 : decode cD_unite 20 = .ok (.aload_n 0, 1) := by decide +kernel
theorem dD_unite_21 : decode cD_unite 21 = .ok (.getfield 21, 3) := by decide +kernel
theorem dD_unite_24 : decode cD_unite 24 = .ok (.iload_n 3, 1) := by decide +kernel
theorem dD_unite_25 : decode cD_unite 25 = .ok (.iload_n 1, 1) := by decide +kernel
theorem dD_unite_26 : decode cD_unite 26 = .ok (.iastore, 1) := by decide +kernel
theorem dD_unite_27 : decode cD_unite 27 = .ok (.iinc 3 1, 3) := by decide +kernel
theorem dD_unite_30 : decode cD_unite 30 = .ok (.goto (-28), 3) := by decide +kernel
theorem dD_unite_33 : decode cD_unite 33 = .ok (.return_, 1) := by decide +kernel
theorem dD_addPairs_0 : decode cD_addPairs 0 = .ok (.aload_n 0, 1) := by decide +kernel
theorem dD_addPairs_1 : decode cD_addPairs 1 = .ok (.getfield 27, 3) := by decide +kernel
theorem dD_addPairs_4 : decode cD_addPairs 4 = .ok (.iconst 0, 1) := by decide +kernel
theorem dD_addPairs_5 : decode cD_addPairs 5 = .ok (.iconst 0, 1) := by decide +kernel
theorem dD_addPairs_6 : decode cD_addPairs 6 = .ok (.iastore, 1) := by decide +kernel
theorem dD_addPairs_7 : decode cD_addPairs 7 = .ok (.aload_n 0, 1) := by decide +kernel
theorem dD_addPairs_8 : decode cD_addPairs 8 = .ok (.getfield 30, 3) := by decide +kernel
theorem dD_addPairs_11 : decode cD_addPairs 11 = .ok (.iconst 0, 1) := by decide +kernel
theorem dD_addPairs_12 : decode cD_addPairs 12 = .ok (.iconst 0, 1) := by decide +kernel
theorem dD_addPairs_13 : decode cD_addPairs 13 = .ok (.iastore, 1) := by decide +kernel
theorem dD_addPairs_14 : decode cD_addPairs 14 = .ok (.iconst 0, 1) := by decide +kernel
theorem dD_addPairs_15 : decode cD_addPairs 15 = .ok (.istore_n 3, 1) := by decide +kernel
theorem dD_addPairs_16 : decode cD_addPairs 16 = .ok (.iload_n 3, 1) := by decide +kernel
theorem dD_addPairs_17 : decode cD_addPairs 17 = .ok (.bipush 64, 2) := by decide +kernel
theorem dD_addPairs_19 : decode cD_addPairs 19 = .ok (.if_icmp .ge 108, 3) := by decide +kernel
theorem dD_addPairs_22 : decode cD_addPairs 22 = .ok (.iload_n 3, 1) := by decide +kernel
theorem dD_addPairs_23 : decode cD_addPairs 23 = .ok (.aload_n 0, 1) := by decide +kernel
theorem dD_addPairs_24 : decode cD_addPairs 24 = .ok (.getfield 39, 3) := by decide +kernel
theorem dD_addPairs_27 : decode cD_addPairs 27 = .ok (.if_icmp .ge 100, 3) := by decide +kernel
theorem dD_addPairs_30 : decode cD_addPairs 30 = .ok (.iconst 0, 1) := by decide +kernel
theorem dD_addPairs_31 : decode cD_addPairs 31 = .ok (.istore 4, 2) := by decide +kernel
theorem dD_addPairs_33 : decode cD_addPairs 33 = .ok (.iload 4, 2) := by decide +kernel
theorem dD_addPairs_35 : decode cD_addPairs 35 = .ok (.bipush 6, 2) := by decide +kernel
theorem dD_addPairs_37 : decode cD_addPairs 37 = .ok (.if_icmp .ge 84, 3) := by decide +kernel
theorem dD_addPairs_40 : decode cD_addPairs 40 = .ok (.aload_n 1, 1) := by decide +kernel
theorem dD_addPairs_41 : decode cD_addPairs 41 = .ok (.aload_n 0, 1) := by decide +kernel
theorem dD_addPairs_42 : decode cD_addPairs 42 = .ok (.getfield 27, 3) := by decide +kernel
theorem dD_addPairs_45 : decode cD_addPairs 45 = .ok (.iload_n 3, 1) := by decide +kernel
theorem dD_addPairs_46 : decode cD_addPairs 46 = .ok (.iaload, 1) := by decide +kernel
theorem dD_addPairs_47 : decode cD_addPairs 47 = .ok (.iload 4, 2) := by decide +kernel
theorem dD_addPairs_49 : decode cD_addPairs 49 = .ok (.invokevirtual 58, 3) := by decide +kernel
theorem dD_addPairs_52 : decode cD_addPairs 52 = .ok (.istore 5, 2) := by decide +kernel
theorem dD_addPairs_54 : decode cD_addPairs 54 = .ok (.aload_n 2, 1) := by decide +kernel
theorem dD_addPairs_55 : decode cD_addPairs 55 = .ok (.aload_n 0, 1) := by decide +kernel
theorem dD_addPairs_56 : decode cD_addPairs 56 = .ok (.getfield 30, 3) := by decide +kernel
theorem dD_addPairs_59 : decode cD_addPairs 59 = .ok (.iload_n 3, 1) := by decide +kernel
theorem dD_addPairs_60 : decode cD_addPairs 60 = .ok (.iaload, 1) := by decide +kernel
theorem dD_addPairs_61 : decode cD_addPairs 61 = .ok (.iload 4, 2) := by decide +kernel
theorem dD_addPairs_63 : decode cD_addPairs 63 = .ok (.invokevirtual 58, 3) := by decide +kernel
theorem dD_addPairs_66 : decode cD_addPairs 66 = .ok (.istore 6, 2) := by decide +kernel
theorem dD_addPairs_68 : decode cD_addPairs 68 = .ok (.iload 5, 2) := by decide +kernel
theorem dD_addPairs_70 : decode cD_addPairs 70 = .ok (.iconst (-1), 1) := by decide +kernel
theorem dD_addPairs_71 : decode cD_addPairs 71 = .ok (.if_icmp .eq 44, 3) := by decide +kernel
theorem dD_addPairs_74 : decode cD_addPairs 74 = .ok (.iload 6, 2) := by decide +kernel
theorem dD_addPairs_76 : decode cD_addPairs 76 = .ok (.iconst (-1), 1) := by decide +kernel
theorem dD_addPairs_77 : decode cD_addPairs 77 = .ok (.if_icmp .ne 6, 3) := by decide +kernel
theorem dD_addPairs_80 : decode cD_addPairs 80 = .ok (.goto 35, 3) := by decide +kernel
theorem dD_addPairs_83 : decode cD_addPairs 83 = .ok (.aload_n 0, 1) := by decide +kernel
theorem dD_addPairs_84 : decode cD_addPairs 84 = .ok (.iload 5, 2) := by decide +kernel
theorem dD_addPairs_86 : decode cD_addPairs 86 = .ok (.iload 6, 2) := by decide +kernel
theorem dD_addPairs_88 : decode cD_addPairs 88 = .ok (.invokevirtual 88, 3) := by decide +kernel
theorem dD_addPairs_91 : decode cD_addPairs 91 = .ok (.istore 7, 2) := by decide +kernel
theorem dD_addPairs_93 : decode cD_addPairs 93 = .ok (.iload 7, 2) := by decide +kernel
theorem dD_addPairs_95 : decode cD_addPairs 95 = .ok (.iconst (-1), 1) := by decide +kernel
theorem dD_addPairs_96 : decode cD_addPairs 96 = .ok (.if_icmp .ne 5, 3) := by decide +kernel
theorem dD_addPairs_99 : decode cD_addPairs 99 = .ok (.iconst 0, 1) := by decide +kernel
theorem dD_addPairs_100 : decode cD_addPairs 100 = .ok (.ireturn, 1) := by decide +kernel
theorem dD_addPairs_101 : decode cD_addPairs 101 = .ok (.aload_n 0, 1) := by decide +kernel
theorem dD_addPairs_102 : decode cD_addPairs 102 = .ok (.getfield 24, 3) := by decide +kernel
theorem dD_addPairs_105 : decode cD_addPairs 105 = .ok (.iload_n 3, 1) := by decide +kernel
theorem dD_addPairs_106 : decode cD_addPairs 106 = .ok (.bipush 6, 2) := by decide +kernel
theorem dD_addPairs_108 : decode cD_addPairs 108 = .ok (.imul, 1) := by decide +kernel
theorem dD_addPairs_109 : decode cD_addPairs 109 = .ok (.iload 4, 2) := by decide +kernel
theorem dD_addPairs_111 : decode cD_addPairs 111 = .ok (.iadd, 1) := by decide +kernel
theorem dD_addPairs_112 : decode cD_addPairs 112 = .ok (.iload 7, 2) := by decide +kernel
theorem dD_addPairs_114 : decode cD_addPairs 114 = .ok (.iastore, 1) := by decide +kernel
theorem dD_addPairs_115 : decode cD_addPairs 115 = .ok (.iinc 4 1, 3) := by decide +kernel
theorem dD_addPairs_118 : decode cD_addPairs 118 = .ok (.goto (-85), 3) := by decide +kernel
theorem dD_addPairs_121 : decode cD_addPairs 121 = .ok (.iinc 3 1, 3) := by decide +kernel
theorem dD_addPairs_124 : decode cD_addPairs 124 = .ok (.goto (-108), 3) := by decide +kernel
theorem dD_addPairs_127 : decode cD_addPairs 127 = .ok (.iconst 1, 1) := by decide +kernel
theorem dD_addPairs_128 : decode cD_addPairs 128 = .ok (.ireturn, 1) := by decide +kernel
theorem dD_findOrAddPair_0 : decode cD_findOrAddPair 0 = .ok (.iconst 0, 1) := by decide +kernel
theorem dD_findOrAddPair_1 : decode cD_findOrAddPair 1 = .ok (.istore_n 3, 1) := by decide +kernel
theorem dD_findOrAddPair_2 : decode cD_findOrAddPair 2 = .ok (.iload_n 3, 1) := by decide +kernel
theorem dD_findOrAddPair_3 : decode cD_findOrAddPair 3 = .ok (.aload_n 0, 1) := by decide +kernel
theorem dD_findOrAddPair_4 : decode cD_findOrAddPair 4 = .ok (.getfield 39, 3) := by decide +kernel
theorem dD_findOrAddPair_7 : decode cD_findOrAddPair 7 = .ok (.if_icmp .ge 31, 3) := by decide +kernel
theorem dD_findOrAddPair_10 : decode cD_findOrAddPair 10 = .ok (.aload_n 0, 1) := by decide +kernel
theorem dD_findOrAddPair_11 : decode cD_findOrAddPair 11 = .ok (.getfield 27, 3) := by decide +kernel
theorem dD_findOrAddPair_14 : decode cD_findOrAddPair 14 = .ok (.iload_n 3, 1) := by decide +kernel
theorem dD_findOrAddPair_15 : decode cD_findOrAddPair 15 = .ok (.iaload, 1) := by decide +kernel
theorem dD_findOrAddPair_16 : decode cD_findOrAddPair 16 = .ok (.iload_n 1, 1) := by decide +kernel
theorem dD_findOrAddPair_17 : decode cD_findOrAddPair 17 = .ok (.if_icmp .ne 15, 3) := by decide +kernel
theorem dD_findOrAddPair_20 : decode cD_findOrAddPair 20 = .ok (.aload_n 0, 1) := by decide +kernel
theorem dD_findOrAddPair_21 : decode cD_findOrAddPair 21 = .ok (.getfield 30, 3) := by decide +kernel
theorem dD_findOrAddPair_24 : decode cD_findOrAddPair 24 = .ok (.iload_n 3, 1) := by decide +kernel
theorem dD_findOrAddPair_25 : decode cD_findOrAddPair 25 = .ok (.iaload, 1) := by decide +kernel
theorem dD_findOrAddPair_26 : decode cD_findOrAddPair 26 = .ok (.iload_n 2, 1) := by decide +kernel
theorem dD_findOrAddPair_27 : decode cD_findOrAddPair 27 = .ok (.if_icmp .ne 5, 3) := by decide +kernel
theorem dD_findOrAddPair_30 : decode cD_findOrAddPair 30 = .ok (.iload_n 3, 1) := by decide +kernel
theorem dD_findOrAddPair_31 : decode cD_findOrAddPair 31 = .ok (.ireturn, 1) := by decide +kernel
theorem dD_findOrAddPair_32 : decode cD_findOrAddPair 32 = .ok (.iinc 3 1, 3) := by decide +kernel
theorem dD_findOrAddPair_35 : decode cD_findOrAddPair 35 = .ok (.goto (-33), 3) := by decide +kernel
theorem dD_findOrAddPair_38 : decode cD_findOrAddPair 38 = .ok (.aload_n 0, 1) := by decide +kernel
theorem dD_findOrAddPair_39 : decode cD_findOrAddPair 39 = .ok (.getfield 39, 3) := by decide +kernel
theorem dD_findOrAddPair_42 : decode cD_findOrAddPair 42 = .ok (.bipush 64, 2) := by decide +kernel
theorem dD_findOrAddPair_44 : decode cD_findOrAddPair 44 = .ok (.if_icmp .lt 5, 3) := by decide +kernel
theorem dD_findOrAddPair_47 : decode cD_findOrAddPair 47 = .ok (.iconst (-1), 1) := by decide +kernel
theorem dD_findOrAddPair_48 : decode cD_findOrAddPair 48 = .ok (.ireturn, 1) := by decide +kernel
theorem dD_findOrAddPair_49 : decode cD_findOrAddPair 49 = .ok (.aload_n 0, 1) := by decide +kernel
theorem dD_findOrAddPair_50 : decode cD_findOrAddPair 50 = .ok (.getfield 27, 3) := by decide +kernel
theorem dD_findOrAddPair_53 : decode cD_findOrAddPair 53 = .ok (.aload_n 0, 1) := by decide +kernel
theorem dD_findOrAddPair_54 : decode cD_findOrAddPair 54 = .ok (.getfield 39, 3) := by decide +kernel
theorem dD_findOrAddPair_57 : decode cD_findOrAddPair 57 = .ok (.iload_n 1, 1) := by decide +kernel
theorem dD_findOrAddPair_58 : decode cD_findOrAddPair 58 = .ok (.iastore, 1) := by decide +kernel
theorem dD_findOrAddPair_59 : decode cD_findOrAddPair 59 = .ok (.aload_n 0, 1) := by decide +kernel
theorem dD_findOrAddPair_60 : decode cD_findOrAddPair 60 = .ok (.getfield 30, 3) := by decide +kernel
theorem dD_findOrAddPair_63 : decode cD_findOrAddPair 63 = .ok (.aload_n 0, 1) := by decide +kernel
theorem dD_findOrAddPair_64 : decode cD_findOrAddPair 64 = .ok (.getfield 39, 3) := by decide +kernel
theorem dD_findOrAddPair_67 : decode cD_findOrAddPair 67 = .ok (.iload_n 2, 1) := by decide +kernel
theorem dD_findOrAddPair_68 : decode cD_findOrAddPair 68 = .ok (.iastore, 1) := by decide +kernel
theorem dD_findOrAddPair_69 : decode cD_findOrAddPair 69 = .ok (.aload_n 0, 1) := by decide +kernel
theorem dD_findOrAddPair_70 : decode cD_findOrAddPair 70 = .ok (.dup, 1) := by decide +kernel
theorem dD_findOrAddPair_71 : decode cD_findOrAddPair 71 = .ok (.getfield 39, 3) := by decide +kernel
theorem dD_findOrAddPair_74 : decode cD_findOrAddPair 74 = .ok (.iconst 1, 1) := by decide +kernel
theorem dD_findOrAddPair_75 : decode cD_findOrAddPair 75 = .ok (.iadd, 1) := by decide +kernel
theorem dD_findOrAddPair_76 : decode cD_findOrAddPair 76 = .ok (.putfield 39, 3) := by decide +kernel
theorem dD_findOrAddPair_79 : decode cD_findOrAddPair 79 = .ok (.aload_n 0, 1) := by decide +kernel
theorem dD_findOrAddPair_80 : decode cD_findOrAddPair 80 = .ok (.getfield 39, 3) := by decide +kernel
theorem dD_findOrAddPair_83 : decode cD_findOrAddPair 83 = .ok (.iconst 1, 1) := by decide +kernel
theorem dD_findOrAddPair_84 : decode cD_findOrAddPair 84 = .ok (.isub, 1) := by decide +kernel
theorem dD_findOrAddPair_85 : decode cD_findOrAddPair 85 = .ok (.ireturn, 1) := by decide +kernel
theorem dD_trim_0 : decode cD_trim 0 = .ok (.iconst 0, 1) := by decide +kernel
theorem dD_trim_1 : decode cD_trim 1 = .ok (.istore_n 1, 1) := by decide +kernel
theorem dD_trim_2 : decode cD_trim 2 = .ok (.iload_n 1, 1) := by decide +kernel
theorem dD_trim_3 : decode cD_trim 3 = .ok (.aload_n 0, 1) := by decide +kernel
theorem dD_trim_4 : decode cD_trim 4 = .ok (.getfield 39, 3) := by decide +kernel
theorem dD_trim_7 : decode cD_trim 7 = .ok (.if_icmp .ge 14, 3) := by decide +kernel
theorem dD_trim_10 : decode cD_trim 10 = .ok (.aload_n 0, 1) := by decide +kernel
theorem dD_trim_11 : decode cD_trim 11 = .ok (.iload_n 1, 1) := by decide +kernel
theorem dD_trim_12 : decode cD_trim 12 = .ok (.invokevirtual 91, 3) := by decide +kernel
theorem dD_trim_15 : decode cD_trim 15 = .ok (.iinc 1 1, 3) := by decide +kernel
theorem dD_trim_18 : decode cD_trim 18 = .ok (.goto (-16), 3) := by decide +kernel
theorem dD_trim_21 : decode cD_trim 21 = .ok (.return_, 1) := by decide +kernel
theorem dD_trimFrom_0 : decode cD_trimFrom 0 = .ok (.iload_n 1, 1) := by decide +kernel
theorem dD_trimFrom_1 : decode cD_trimFrom 1 = .ok (.istore_n 2, 1) := by decide +kernel
theorem dD_trimFrom_2 : decode cD_trimFrom 2 = .ok (.iconst 0, 1) := by decide +kernel
theorem dD_trimFrom_3 : decode cD_trimFrom 3 = .ok (.istore_n 3, 1) := by decide +kernel
theorem dD_trimFrom_4 : decode cD_trimFrom 4 = .ok (.iload_n 3, 1) := by decide +kernel
theorem dD_trimFrom_5 : decode cD_trimFrom 5 = .ok (.aload_n 0, 1) := by decide +kernel
theorem dD_trimFrom_6 : decode cD_trimFrom 6 = .ok (.getfield 39, 3) := by decide +kernel
theorem dD_trimFrom_9 : decode cD_trimFrom 9 = .ok (.if_icmp .ge 77, 3) := by decide +kernel
theorem dD_trimFrom_12 : decode cD_trimFrom 12 = .ok (.iload_n 2, 1) := by decide +kernel
theorem dD_trimFrom_13 : decode cD_trimFrom 13 = .ok (.aload_n 0, 1) := by decide +kernel
theorem dD_trimFrom_14 : decode cD_trimFrom 14 = .ok (.getfield 43, 3) := by decide +kernel
theorem dD_trimFrom_17 : decode cD_trimFrom 17 = .ok (.if_icmp .eq 69, 3) := by decide +kernel
theorem dD_trimFrom_20 : decode cD_trimFrom 20 = .ok (.aload_n 0, 1) := by decide +kernel
theorem dD_trimFrom_21 : decode cD_trimFrom 21 = .ok (.iload_n 2, 1) := by decide +kernel
theorem dD_trimFrom_22 : decode cD_trimFrom 22 = .ok (.invokevirtual 95, 3) := by decide +kernel
theorem dD_trimFrom_25 : decode cD_trimFrom 25 = .ok (.istore 4, 2) := by decide +kernel
theorem dD_trimFrom_27 : decode cD_trimFrom 27 = .ok (.iload 4, 2) := by decide +kernel
theorem dD_trimFrom_29 : decode cD_trimFrom 29 = .ok (.iconst (-1), 1) := by decide +kernel
theorem dD_trimFrom_30 : decode cD_trimFrom 30 = .ok (.if_icmp .ne 4, 3) := by decide +kernel
theorem dD_trimFrom_33 : decode cD_trimFrom 33 = .ok (.return_, 1) := by decide +kernel
theorem dD_trimFrom_34 : decode cD_trimFrom 34 = .ok (.aload_n 0, 1) := by decide +kernel
theorem dD_trimFrom_35 : decode cD_trimFrom 35 = .ok (.getfield 24, 3) := by decide +kernel
theorem dD_trimFrom_38 : decode cD_trimFrom 38 = .ok (.iload_n 2, 1) := by decide +kernel
theorem dD_trimFrom_39 : decode cD_trimFrom 39 = .ok (.bipush 6, 2) := by decide +kernel
theorem dD_trimFrom_41 : decode cD_trimFrom 41 = .ok (.imul, 1) := by decide +kernel
theorem dD_trimFrom_42 : decode cD_trimFrom 42 = .ok (.iload 4, 2) := by decide +kernel
theorem dD_trimFrom_44 : decode cD_trimFrom 44 = .ok (.iadd, 1) := by decide +kernel
theorem dD_trimFrom_45 : decode cD_trimFrom 45 = .ok (.iaload, 1) := by decide +kernel
theorem dD_trimFrom_46 : decode cD_trimFrom 46 = .ok (.istore 5, 2) := by decide +kernel
theorem dD_trimFrom_48 : decode cD_trimFrom 48 = .ok (.aload_n 0, 1) := by decide +kernel
theorem dD_trimFrom_49 : decode cD_trimFrom 49 = .ok (.getfield 24, 3) := by decide +kernel
theorem dD_trimFrom_52 : decode cD_trimFrom 52 = .ok (.iload_n 2, 1) := by decide +kernel
theorem dD_trimFrom_53 : decode cD_trimFrom 53 = .ok (.bipush 6, 2) := by decide +kernel
theorem dD_trimFrom_55 : decode cD_trimFrom 55 = .ok (.imul, 1) := by decide +kernel
theorem dD_trimFrom_56 : decode cD_trimFrom 56 = .ok (.iload 4, 2) := by decide +kernel
theorem dD_trimFrom_58 : decode cD_trimFrom 58 = .ok (.iadd, 1) := by decide +kernel
theorem dD_trimFrom_59 : decode cD_trimFrom 59 = .ok (.iconst (-1), 1) := by decide +kernel
theorem dD_trimFrom_60 : decode cD_trimFrom 60 = .ok (.iastore, 1) := by decide +kernel
theorem dD_trimFrom_61 : decode cD_trimFrom 61 = .ok (.aload_n 0, 1) := by decide +kernel
theorem dD_trimFrom_62 : decode cD_trimFrom 62 = .ok (.getfield 24, 3) := by decide +kernel
theorem dD_trimFrom_65 : decode cD_trimFrom 65 = .ok (.iload 5, 2) := by decide +kernel
theorem dD_trimFrom_67 : decode cD_trimFrom 67 = .ok (.bipush 6, 2) := by decide +kernel
theorem dD_trimFrom_69 : decode cD_trimFrom 69 = .ok (.imul, 1) := by decide +kernel
theorem dD_trimFrom_70 : decode cD_trimFrom 70 = .ok (.iload 4, 2) := by decide +kernel
theorem dD_trimFrom_72 : decode cD_trimFrom 72 = .ok (.iconst 1, 1) := by decide +kernel
theorem dD_trimFrom_73 : decode cD_trimFrom 73 = .ok (.ixor, 1) := by decide +kernel
theorem dD_trimFrom_74 : decode cD_trimFrom 74 = .ok (.iadd, 1) := by decide +kernel
theorem dD_trimFrom_75 : decode cD_trimFrom 75 = .ok (.iconst (-1), 1) := by decide +kernel
theorem dD_trimFrom_76 : decode cD_trimFrom 76 = .ok (.iastore, 1) := by decide +kernel
theorem dD_trimFrom_77 : decode cD_trimFrom 77 = .ok (.iload 5, 2) := by decide +kernel
theorem dD_trimFrom_79 : decode cD_trimFrom 79 = .ok (.istore_n 2, 1) := by decide +kernel
theorem dD_trimFrom_80 : decode cD_trimFrom 80 = .ok (.iinc 3 1, 3) := by decide +kernel
theorem dD_trimFrom_83 : decode cD_trimFrom 83 = .ok (.goto (-79), 3) := by decide +kernel
theorem dD_trimFrom_86 : decode cD_trimFrom 86 = .ok (.return_, 1) := by decide +kernel
theorem dD_onlyWay_0 : decode cD_onlyWay 0 = .ok (.iconst (-1), 1) := by decide +kernel
theorem dD_onlyWay_1 : decode cD_onlyWay 1 = .ok (.istore_n 2, 1) := by decide +kernel
theorem dD_onlyWay_2 : decode cD_onlyWay 2 = .ok (.iconst 0, 1) := by decide +kernel
theorem dD_onlyWay_3 : decode cD_onlyWay 3 = .ok (.istore_n 3, 1) := by decide +kernel
theorem dD_onlyWay_4 : decode cD_onlyWay 4 = .ok (.iload_n 3, 1) := by decide +kernel
theorem dD_onlyWay_5 : decode cD_onlyWay 5 = .ok (.bipush 6, 2) := by decide +kernel
theorem dD_onlyWay_7 : decode cD_onlyWay 7 = .ok (.if_icmp .ge 33, 3) := by decide +kernel
theorem dD_onlyWay_10 : decode cD_onlyWay 10 = .ok (.aload_n 0, 1) := by decide +kernel
theorem dD_onlyWay_11 : decode cD_onlyWay 11 = .ok (.getfield 24, 3) := by decide +kernel
theorem dD_onlyWay_14 : decode cD_onlyWay 14 = .ok (.iload_n 1, 1) := by decide +kernel
theorem dD_onlyWay_15 : decode cD_onlyWay 15 = .ok (.bipush 6, 2) := by decide +kernel
theorem dD_onlyWay_17 : decode cD_onlyWay 17 = .ok (.imul, 1) := by decide +kernel
theorem dD_onlyWay_18 : decode cD_onlyWay 18 = .ok (.iload_n 3, 1) := by decide +kernel
theorem dD_onlyWay_19 : decode cD_onlyWay 19 = .ok (.iadd, 1) := by decide +kernel
theorem dD_onlyWay_20 : decode cD_onlyWay 20 = .ok (.iaload, 1) := by decide +kernel
theorem dD_onlyWay_21 : decode cD_onlyWay 21 = .ok (.iconst (-1), 1) := by decide +kernel
theorem dD_onlyWay_22 : decode cD_onlyWay 22 = .ok (.if_icmp .eq 12, 3) := by decide +kernel
theorem dD_onlyWay_25 : decode cD_onlyWay 25 = .ok (.iload_n 2, 1) := by decide +kernel
theorem dD_onlyWay_26 : decode cD_onlyWay 26 = .ok (.iconst (-1), 1) := by decide +kernel
theorem dD_onlyWay_27 : decode cD_onlyWay 27 = .ok (.if_icmp .eq 5, 3) := by decide +kernel
theorem dD_onlyWay_30 : decode cD_onlyWay 30 = .ok (.iconst (-1), 1) := by decide +kernel
theorem dD_onlyWay_31 : decode cD_onlyWay 31 = .ok (.ireturn, 1) := by decide +kernel
theorem dD_onlyWay_32 : decode cD_onlyWay 32 = .ok (.iload_n 3, 1) := by decide +kernel
theorem dD_onlyWay_33 : decode cD_onlyWay 33 = .ok (.istore_n 2, 1) := by decide +kernel
theorem dD_onlyWay_34 : decode cD_onlyWay 34 = .ok (.iinc 3 1, 3) := by decide +kernel
theorem dD_onlyWay_37 : decode cD_onlyWay 37 = .ok (.goto (-33), 3) := by decide +kernel
theorem dD_onlyWay_40 : decode cD_onlyWay 40 = .ok (.iload_n 2, 1) := by decide +kernel
theorem dD_onlyWay_41 : decode cD_onlyWay 41 = .ok (.ireturn, 1) := by decide +kernel
theorem dD_numberInto_0 : decode cD_numberInto 0 = .ok (.aload_n 1, 1) := by decide +kernel
theorem dD_numberInto_1 : decode cD_numberInto 1 = .ok (.invokevirtual 98, 3) := by decide +kernel
theorem dD_numberInto_4 : decode cD_numberInto 4 = .ok (.aload_n 0, 1) := by decide +kernel
theorem dD_numberInto_5 : decode cD_numberInto 5 = .ok (.getfield 33, 3) := by decide +kernel
theorem dD_numberInto_8 : decode cD_numberInto 8 = .ok (.iconst (-1), 1) := by decide +kernel
theorem dD_numberInto_9 : decode cD_numberInto 9 = .ok (.invokestatic 49, 3) := by decide +kernel
theorem dD_numberInto_12 : decode cD_numberInto 12 = .ok (.aload_n 0, 1) := by decide +kernel
theorem dD_numberInto_13 : decode cD_numberInto 13 = .ok (.getfield 33, 3) := by decide +kernel
theorem dD_numberInto_16 : decode cD_numberInto 16 = .ok (.aload_n 0, 1) := by decide +kernel
theorem dD_numberInto_17 : decode cD_numberInto 17 = .ok (.getfield 43, 3) := by decide +kernel
theorem dD_numberInto_20 : decode cD_numberInto 20 = .ok (.iconst 0, 1) := by decide +kernel
theorem dD_numberInto_21 : decode cD_numberInto 21 = .ok (.iastore, 1) := by decide +kernel
theorem dD_numberInto_22 : decode cD_numberInto 22 = .ok (.aload_n 0, 1) := by decide +kernel
theorem dD_numberInto_23 : decode cD_numberInto 23 = .ok (.getfield 36, 3) := by decide +kernel
theorem dD_numberInto_26 : decode cD_numberInto 26 = .ok (.iconst 0, 1) := by decide +kernel
theorem dD_numberInto_27 : decode cD_numberInto 27 = .ok (.aload_n 0, 1) := by decide +kernel
theorem dD_numberInto_28 : decode cD_numberInto 28 = .ok (.getfield 43, 3) := by decide +kernel
theorem dD_numberInto_31 : decode cD_numberInto 31 = .ok (.iastore, 1) := by decide +kernel
theorem dD_numberInto_32 : decode cD_numberInto 32 = .ok (.iconst 0, 1) := by decide +kernel
theorem dD_numberInto_33 : decode cD_numberInto 33 = .ok (.istore_n 2, 1) := by decide +kernel
theorem dD_numberInto_34 : decode cD_numberInto 34 = .ok (.iload_n 2, 1) := by decide +kernel
theorem dD_numberInto_35 : decode cD_numberInto 35 = .ok (.bipush 64, 2) := by decide +kernel
theorem dD_numberInto_37 : decode cD_numberInto 37 = .ok (.if_icmp .ge 115, 3) := by decide +kernel
theorem dD_numberInto_40 : decode cD_numberInto 40 = .ok (.iload_n 2, 1) := by decide +kernel
theorem dD_numberInto_41 : decode cD_numberInto 41 = .ok (.aload_n 1, 1) := by decide +kernel
theorem dD_numberInto_42 : decode cD_numberInto 42 = .ok (.getfield 55, 3) := by decide +kernel
theorem dD_numberInto_45 : decode cD_numberInto 45 = .ok (.if_icmp .ge 107, 3) := by decide +kernel
theorem dD_numberInto_48 : decode cD_numberInto 48 = .ok (.iconst 0, 1) := by decide +kernel
theorem dD_numberInto_49 : decode cD_numberInto 49 = .ok (.istore_n 3, 1) := by decide +kernel
theorem dD_numberInto_50 : decode cD_numberInto 50 = .ok (.iload_n 3, 1) := by decide +kernel
theorem dD_numberInto_51 : decode cD_numberInto 51 = .ok (.bipush 6, 2) := by decide +kernel
theorem dD_numberInto_53 : decode cD_numberInto 53 = .ok (.if_icmp .ge 93, 3) := by decide +kernel
theorem dD_numberInto_56 : decode cD_numberInto 56 = .ok (.aload_n 0, 1) := by decide +kernel
theorem dD_numberInto_57 : decode cD_numberInto 57 = .ok (.getfield 24, 3) := by decide +kernel
theorem dD_numberInto_60 : decode cD_numberInto 60 = .ok (.aload_n 0, 1) := by decide +kernel
theorem dD_numberInto_61 : decode cD_numberInto 61 = .ok (.getfield 36, 3) := by decide +kernel
theorem dD_numberInto_64 : decode cD_numberInto 64 = .ok (.iload_n 2, 1) := by decide +kernel
theorem dD_numberInto_65 : decode cD_numberInto 65 = .ok (.iaload, 1) := by decide +kernel
theorem dD_numberInto_66 : decode cD_numberInto 66 = .ok (.bipush 6, 2) := by decide +kernel
theorem dD_numberInto_68 : decode cD_numberInto 68 = .ok (.imul, 1) := by decide +kernel
theorem dD_numberInto_69 : decode cD_numberInto 69 = .ok (.iload_n 3, 1) := by decide +kernel
theorem dD_numberInto_70 : decode cD_numberInto 70 = .ok (.iadd, 1) := by decide +kernel
theorem dD_numberInto_71 : decode cD_numberInto 71 = .ok (.iaload, 1) := by decide +kernel
theorem dD_numberInto_72 : decode cD_numberInto 72 = .ok (.istore 4, 2) := by decide +kernel
theorem dD_numberInto_74 : decode cD_numberInto 74 = .ok (.iload 4, 2) := by decide +kernel
theorem dD_numberInto_76 : decode cD_numberInto 76 = .ok (.iconst (-1), 1) := by decide +kernel
theorem dD_numberInto_77 : decode cD_numberInto 77 = .ok (.if_icmp .ne 6, 3) := by decide +kernel
theorem dD_numberInto_80 : decode cD_numberInto 80 = .ok (.goto 60, 3) := by decide +kernel
theorem dD_numberInto_83 : decode cD_numberInto 83 = .ok (.aload_n 0, 1) := by decide +kernel
theorem dD_numberInto_84 : decode cD_numberInto 84 = .ok (.getfield 33, 3) := by decide +kernel
theorem dD_numberInto_87 : decode cD_numberInto 87 = .ok (.iload 4, 2) := by decide +kernel
theorem dD_numberInto_89 : decode cD_numberInto 89 = .ok (.iaload, 1) := by decide +kernel
theorem dD_numberInto_90 : decode cD_numberInto 90 = .ok (.iconst (-1), 1) := by decide +kernel
theorem dD_numberInto_91 : decode cD_numberInto 91 = .ok (.if_icmp .ne 31, 3) := by decide +kernel
theorem dD_numberInto_94 : decode cD_numberInto 94 = .ok (.aload_n 0, 1) := by decide +kernel
theorem dD_numberInto_95 : decode cD_numberInto 95 = .ok (.getfield 33, 3) := by decide +kernel
theorem dD_numberInto_98 : decode cD_numberInto 98 = .ok (.iload 4, 2) := by decide +kernel
theorem dD_numberInto_100 : decode cD_numberInto 100 = .ok (.aload_n 1, 1) := by decide +kernel
theorem dD_numberInto_101 : decode cD_numberInto 101 = .ok (.getfield 55, 3) := by decide +kernel
theorem dD_numberInto_104 : decode cD_numberInto 104 = .ok (.iastore, 1) := by decide +kernel
theorem dD_numberInto_105 : decode cD_numberInto 105 = .ok (.aload_n 0, 1) := by decide +kernel
theorem dD_numberInto_106 : decode cD_numberInto 106 = .ok (.getfield 36, 3) := by decide +kernel
theorem dD_numberInto_109 : decode cD_numberInto 109 = .ok (.aload_n 1, 1) := by decide +kernel
theorem dD_numberInto_110 : decode cD_numberInto 110 = .ok (.getfield 55, 3) := by decide +kernel
theorem dD_numberInto_113 : decode cD_numberInto 113 = .ok (.iload 4, 2) := by decide +kernel
theorem dD_numberInto_115 : decode cD_numberInto 115 = .ok (.iastore, 1) := by decide +kernel
theorem dD_numberInto_116 : decode cD_numberInto 116 = .ok (.aload_n 1, 1) := by decide +kernel
theorem dD_numberInto_117 : decode cD_numberInto 117 = .ok (.iload_n 2, 1) := by decide +kernel
theorem dD_numberInto_118 : decode cD_numberInto 118 = .ok (.iload_n 3, 1) := by decide +kernel
theorem dD_numberInto_119 : decode cD_numberInto 119 = .ok (.invokevirtual 101, 3) := by decide +kernel
theorem dD_numberInto_122 : decode cD_numberInto 122 = .ok (.aload_n 1, 1) := by decide +kernel
theorem dD_numberInto_123 : decode cD_numberInto 123 = .ok (.getfield 104, 3) := by decide +kernel
theorem dD_numberInto_126 : decode cD_numberInto 126 = .ok (.iload_n 2, 1) := by decide +kernel
theorem dD_numberInto_127 : decode cD_numberInto 127 = .ok (.bipush 6, 2) := by decide +kernel
theorem dD_numberInto_129 : decode cD_numberInto 129 = .ok (.imul, 1) := by decide +kernel
theorem dD_numberInto_130 : decode cD_numberInto 130 = .ok (.iload_n 3, 1) := by decide +kernel
theorem dD_numberInto_131 : decode cD_numberInto 131 = .ok (.iadd, 1) := by decide +kernel
theorem dD_numberInto_132 : decode cD_numberInto 132 = .ok (.aload_n 0, 1) := by decide +kernel
theorem dD_numberInto_133 : decode cD_numberInto 133 = .ok (.getfield 33, 3) := by decide +kernel
theorem dD_numberInto_136 : decode cD_numberInto 136 = .ok (.iload 4, 2) := by decide +kernel
theorem dD_numberInto_138 : decode cD_numberInto 138 = .ok (.iaload, 1) := by decide +kernel
theorem dD_numberInto_139 : decode cD_numberInto 139 = .ok (.iastore, 1) := by decide +kernel
theorem dD_numberInto_140 : decode cD_numberInto 140 = .ok (.iinc 3 1, 3) := by decide +kernel
theorem dD_numberInto_143 : decode cD_numberInto 143 = .ok (.goto (-93), 3) := by decide +kernel
theorem dD_numberInto_146 : decode cD_numberInto 146 = .ok (.iinc 2 1, 3) := by decide +kernel
theorem dD_numberInto_149 : decode cD_numberInto 149 = .ok (.goto (-115), 3) := by decide +kernel
theorem dD_numberInto_152 : decode cD_numberInto 152 = .ok (.aload_n 1, 1) := by decide +kernel
theorem dD_numberInto_153 : decode cD_numberInto 153 = .ok (.invokevirtual 105, 3) := by decide +kernel
theorem dD_numberInto_156 : decode cD_numberInto 156 = .ok (.aload_n 1, 1) := by decide +kernel
theorem dD_numberInto_157 : decode cD_numberInto 157 = .ok (.getfield 55, 3) := by decide +kernel
theorem dD_numberInto_160 : decode cD_numberInto 160 = .ok (.ireturn, 1) := by decide +kernel
theorem dG_init_0 : decode cG_init 0 = .ok (.aload_n 0, 1) := by decide +kernel
theorem dG_init_1 : decode cG_init 1 = .ok (.invokespecial 3, 3) := by decide +kernel
theorem dG_init_4 : decode cG_init 4 = .ok (.aload_n 0, 1) := by decide +kernel
theorem dG_init_5 : decode cG_init 5 = .ok (.sipush 384, 3) := by decide +kernel
theorem dG_init_8 : decode cG_init 8 = .ok (.newarray .int, 2) := by decide +kernel
theorem dG_init_10 : decode cG_init 10 = .ok (.putfield 9, 3) := by decide +kernel
theorem dG_init_13 : decode cG_init 13 = .ok (.aload_n 0, 1) := by decide +kernel
theorem dG_init_14 : decode cG_init 14 = .ok (.sipush 384, 3) := by decide +kernel
theorem dG_init_17 : decode cG_init 17 = .ok (.newarray .int, 2) := by decide +kernel
theorem dG_init_19 : decode cG_init 19 = .ok (.putfield 15, 3) := by decide +kernel
theorem dG_init_22 : decode cG_init 22 = .ok (.aload_n 0, 1) := by decide +kernel
theorem dG_init_23 : decode cG_init 23 = .ok (.bipush 64, 2) := by decide +kernel
theorem dG_init_25 : decode cG_init 25 = .ok (.newarray .int, 2) := by decide +kernel
theorem dG_init_27 : decode cG_init 27 = .ok (.putfield 18, 3) := by decide +kernel
theorem dG_init_30 : decode cG_init 30 = .ok (.aload_n 0, 1) := by decide +kernel
theorem dG_init_31 : decode cG_init 31 = .ok (.bipush 64, 2) := by decide +kernel
theorem dG_init_33 : decode cG_init 33 = .ok (.newarray .int, 2) := by decide +kernel
theorem dG_init_35 : decode cG_init 35 = .ok (.putfield 21, 3) := by decide +kernel
theorem dG_init_38 : decode cG_init 38 = .ok (.aload_n 0, 1) := by decide +kernel
theorem dG_init_39 : decode cG_init 39 = .ok (.bipush 64, 2) := by decide +kernel
theorem dG_init_41 : decode cG_init 41 = .ok (.newarray .int, 2) := by decide +kernel
theorem dG_init_43 : decode cG_init 43 = .ok (.putfield 24, 3) := by decide +kernel
theorem dG_init_46 : decode cG_init 46 = .ok (.aload_n 0, 1) := by decide +kernel
theorem dG_init_47 : decode cG_init 47 = .ok (.bipush 64, 2) := by decide +kernel
theorem dG_init_49 : decode cG_init 49 = .ok (.newarray .int, 2) := by decide +kernel
theorem dG_init_51 : decode cG_init 51 = .ok (.putfield 27, 3) := by decide +kernel
theorem dG_init_54 : decode cG_init 54 = .ok (.aload_n 0, 1) := by decide +kernel
theorem dG_init_55 : decode cG_init 55 = .ok (.invokevirtual 30, 3) := by decide +kernel
theorem dG_init_58 : decode cG_init 58 = .ok (.return_, 1) := by decide +kernel
theorem dG_reset_0 : decode cG_reset 0 = .ok (.aload_n 0, 1) := by decide +kernel
theorem dG_reset_1 : decode cG_reset 1 = .ok (.iconst 1, 1) := by decide +kernel
theorem dG_reset_2 : decode cG_reset 2 = .ok (.putfield 33, 3) := by decide +kernel
theorem dG_reset_5 : decode cG_reset 5 = .ok (.aload_n 0, 1) := by decide +kernel
theorem dG_reset_6 : decode cG_reset 6 = .ok (.iconst 0, 1) := by decide +kernel
theorem dG_reset_7 : decode cG_reset 7 = .ok (.putfield 37, 3) := by decide +kernel
theorem dG_reset_10 : decode cG_reset 10 = .ok (.aload_n 0, 1) := by decide +kernel
theorem dG_reset_11 : decode cG_reset 11 = .ok (.iconst 0, 1) := by decide +kernel
theorem dG_reset_12 : decode cG_reset 12 = .ok (.putfield 40, 3) := by decide +kernel
theorem dG_reset_15 : decode cG_reset 15 = .ok (.aload_n 0, 1) := by decide +kernel
theorem dG_reset_16 : decode cG_reset 16 = .ok (.getfield 18, 3) := by decide +kernel
theorem dG_reset_19 : decode cG_reset 19 = .ok (.iconst 0, 1) := by decide +kernel
theorem dG_reset_20 : decode cG_reset 20 = .ok (.iconst (-1), 1) := by decide +kernel
theorem dG_reset_21 : decode cG_reset 21 = .ok (.iastore, 1) := by decide +kernel
theorem dG_reset_22 : decode cG_reset 22 = .ok (.aload_n 0, 1) := by decide +kernel
theorem dG_reset_23 : decode cG_reset 23 = .ok (.getfield 21, 3) := by decide +kernel
theorem dG_reset_26 : decode cG_reset 26 = .ok (.iconst 0, 1) := by decide +kernel
theorem dG_reset_27 : decode cG_reset 27 = .ok (.iconst (-1), 1) := by decide +kernel
theorem dG_reset_28 : decode cG_reset 28 = .ok (.iastore, 1) := by decide +kernel
theorem dG_reset_29 : decode cG_reset 29 = .ok (.aload_n 0, 1) := by decide +kernel
theorem dG_reset_30 : decode cG_reset 30 = .ok (.getfield 24, 3) := by decide +kernel
theorem dG_reset_33 : decode cG_reset 33 = .ok (.iconst 0, 1) := by decide +kernel
theorem dG_reset_34 : decode cG_reset 34 = .ok (.iconst 0, 1) := by decide +kernel
theorem dG_reset_35 : decode cG_reset 35 = .ok (.iastore, 1) := by decide +kernel
theorem dG_reset_36 : decode cG_reset 36 = .ok (.aload_n 0, 1) := by decide +kernel
theorem dG_reset_37 : decode cG_reset 37 = .ok (.getfield 9, 3) := by decide +kernel
theorem dG_reset_40 : decode cG_reset 40 = .ok (.iconst (-1), 1) := by decide +kernel
theorem dG_reset_41 : decode cG_reset 41 = .ok (.invokestatic 43, 3) := by decide +kernel
theorem dG_reset_44 : decode cG_reset 44 = .ok (.aload_n 0, 1) := by decide +kernel
theorem dG_reset_45 : decode cG_reset 45 = .ok (.getfield 15, 3) := by decide +kernel
theorem dG_reset_48 : decode cG_reset 48 = .ok (.iconst 0, 1) := by decide +kernel
theorem dG_reset_49 : decode cG_reset 49 = .ok (.invokestatic 43, 3) := by decide +kernel
theorem dG_reset_52 : decode cG_reset 52 = .ok (.return_, 1) := by decide +kernel
theorem dG_way_0 : decode cG_way 0 = .ok (.aload_n 0, 1) := by decide +kernel
theorem dG_way_1 : decode cG_way 1 = .ok (.getfield 9, 3) := by decide +kernel
theorem dG_way_4 : decode cG_way 4 = .ok (.iload_n 1, 1) := by decide +kernel
theorem dG_way_5 : decode cG_way 5 = .ok (.bipush 6, 2) := by decide +kernel
theorem dG_way_7 : decode cG_way 7 = .ok (.imul, 1) := by decide +kernel
theorem dG_way_8 : decode cG_way 8 = .ok (.iload_n 2, 1) := by decide +kernel
theorem dG_way_9 : decode cG_way 9 = .ok (.iadd, 1) := by decide +kernel
theorem dG_way_10 : decode cG_way 10 = .ok (.iaload, 1) := by decide +kernel
theorem dG_way_11 : decode cG_way 11 = .ok (.ireturn, 1) := by decide +kernel
theorem dG_growTree_0 : decode cG_growTree 0 = .ok (.aload_n 0, 1) := by decide +kernel
theorem dG_growTree_1 : decode cG_growTree 1 = .ok (.getfield 33, 3) := by decide +kernel
theorem dG_growTree_4 : decode cG_growTree 4 = .ok (.bipush 64, 2) := by decide +kernel
theorem dG_growTree_6 : decode cG_growTree 6 = .ok (.if_icmp .ge 50, 3) := by decide +kernel
theorem dG_growTree_9 : decode cG_growTree 9 = .ok (.aload_n 0, 1) := by decide +kernel
theorem dG_growTree_10 : decode cG_growTree 10 = .ok (.getfield 18, 3) := by decide +kernel
theorem dG_growTree_13 : decode cG_growTree 13 = .ok (.aload_n 0, 1) := by decide +kernel
theorem dG_growTree_14 : decode cG_growTree 14 = .ok (.getfield 33, 3) := by decide +kernel
theorem dG_growTree_17 : decode cG_growTree 17 = .ok (.iload_n 1, 1) := by decide +kernel
theorem dG_growTree_18 : decode cG_growTree 18 = .ok (.iastore, 1) := by decide +kernel
theorem dG_growTree_19 : decode cG_growTree 19 = .ok (.aload_n 0, 1) := by decide +kernel
theorem dG_growTree_20 : decode cG_growTree 20 = .ok (.getfield 21, 3) := by decide +kernel
theorem dG_growTree_23 : decode cG_growTree 23 = .ok (.aload_n 0, 1) := by decide +kernel
theorem dG_growTree_24 : decode cG_growTree 24 = .ok (.getfield 33, 3) := by decide +kernel
theorem dG_growTree_27 : decode cG_growTree 27 = .ok (.iload_n 2, 1) := by decide +kernel
theorem dG_growTree_28 : decode cG_growTree 28 = .ok (.iastore, 1) := by decide +kernel
theorem dG_growTree_29 : decode cG_growTree 29 = .ok (.aload_n 0, 1) := by decide +kernel
theorem dG_growTree_30 : decode cG_growTree 30 = .ok (.getfield 24, 3) := by decide +kernel
theorem dG_growTree_33 : decode cG_growTree 33 = .ok (.aload_n 0, 1) := by decide +kernel
theorem dG_growTree_34 : decode cG_growTree 34 = .ok (.getfield 33, 3) := by decide +kernel
theorem dG_growTree_37 : decode cG_growTree 37 = .ok (.aload_n 0, 1) := by decide +kernel
theorem dG_growTree_38 : decode cG_growTree 38 = .ok (.getfield 24, 3) := by decide +kernel
theorem dG_growTree_41 : decode cG_growTree 41 = .ok (.iload_n 1, 1) := by decide +kernel
theorem dG_growTree_42 : decode cG_growTree 42 = .ok (.iaload, 1) := by decide +kernel
theorem dG_growTree_43 : decode cG_growTree 43 = .ok (.iconst 1, 1) := by decide +kernel
theorem dG_growTree_44 : decode cG_growTree 44 = .ok (.iadd, 1) := by decide +kernel
theorem dG_growTree_45 : decode cG_growTree 45 = .ok (.iastore, 1) := by decide +kernel
theorem dG_growTree_46 : decode cG_growTree 46 = .ok (.aload_n 0, 1) := by decide +kernel
theorem dG_growTree_47 : decode cG_growTree 47 = .ok (.dup, 1) := by decide +kernel
theorem dG_growTree_48 : decode cG_growTree 48 = .ok (.getfield 33, 3) := by decide +kernel
theorem dG_growTree_51 : decode cG_growTree 51 = .ok (.iconst 1, 1) := by decide +kernel
theorem dG_growTree_52 : decode cG_growTree 52 = .ok (.iadd, 1) := by decide +kernel
theorem dG_growTree_53 : decode cG_growTree 53 = .ok (.putfield 33, 3) := by decide +kernel
theorem dG_growTree_56 : decode cG_growTree 56 = .ok (.return_, 1) := by decide +kernel
theorem dG_findBasis_0 : decode cG_findBasis 0 = .ok (.iconst 0, 1) := by decide +kernel
theorem dG_findBasis_1 : decode cG_findBasis 1 = .ok (.istore_n 1, 1) := by decide +kernel
theorem dG_findBasis_2 : decode cG_findBasis 2 = .ok (.iload_n 1, 1) := by decide +kernel
theorem dG_findBasis_3 : decode cG_findBasis 3 = .ok (.aload_n 0, 1) := by decide +kernel
theorem dG_findBasis_4 : decode cG_findBasis 4 = .ok (.getfield 33, 3) := by decide +kernel
theorem dG_findBasis_7 : decode cG_findBasis 7 = .ok (.if_icmp .ge 113, 3) := by decide +kernel
theorem dG_findBasis_10 : decode cG_findBasis 10 = .ok (.iconst 0, 1) := by decide +kernel
theorem dG_findBasis_11 : decode cG_findBasis 11 = .ok (.istore_n 2, 1) := by decide +kernel
theorem dG_findBasis_12 : decode cG_findBasis 12 = .ok (.iload_n 2, 1) := by decide +kernel
theorem dG_findBasis_13 : decode cG_findBasis 13 = .ok (.bipush 6, 2) := by decide +kernel
theorem dG_findBasis_15 : decode cG_findBasis 15 = .ok (.if_icmp .ge 99, 3) := by decide +kernel
theorem dG_findBasis_18 : decode cG_findBasis 18 = .ok (.aload_n 0, 1) := by decide +kernel
theorem dG_findBasis_19 : decode cG_findBasis 19 = .ok (.iload_n 1, 1) := by decide +kernel
theorem dG_findBasis_20 : decode cG_findBasis 20 = .ok (.iload_n 2, 1) := by decide +kernel
theorem dG_findBasis_21 : decode cG_findBasis 21 = .ok (.invokevirtual 49, 3) := by decide +kernel
theorem dG_findBasis_24 : decode cG_findBasis 24 = .ok (.istore_n 3, 1) := by decide +kernel
theorem dG_findBasis_25 : decode cG_findBasis 25 = .ok (.iload_n 3, 1) := by decide +kernel
theorem dG_findBasis_26 : decode cG_findBasis 26 = .ok (.iconst (-1), 1) := by decide +kernel
theorem dG_findBasis_27 : decode cG_findBasis 27 = .ok (.if_icmp .ne 6, 3) := by decide +kernel
theorem dG_findBasis_30 : decode cG_findBasis 30 = .ok (.goto 78, 3) := by decide +kernel
theorem dG_findBasis_33 : decode cG_findBasis 33 = .ok (.aload_n 0, 1) := by decide +kernel
theorem dG_findBasis_34 : decode cG_findBasis 34 = .ok (.dup, 1) := by decide +kernel
theorem dG_findBasis_35 : decode cG_findBasis 35 = .ok (.getfield 37, 3) := by decide +kernel
theorem dG_findBasis_38 : decode cG_findBasis 38 = .ok (.iconst 1, 1) := by decide +kernel
theorem dG_findBasis_39 : decode cG_findBasis 39 = .ok (.iadd, 1) := by decide +kernel
theorem dG_findBasis_40 : decode cG_findBasis 40 = .ok (.putfield 37, 3) := by decide +kernel
theorem dG_findBasis_43 : decode cG_findBasis 43 = .ok (.aload_n 0, 1) := by decide +kernel
theorem dG_findBasis_44 : decode cG_findBasis 44 = .ok (.getfield 21, 3) := by decide +kernel
theorem dG_findBasis_47 : decode cG_findBasis 47 = .ok (.iload_n 3, 1) := by decide +kernel
theorem dG_findBasis_48 : decode cG_findBasis 48 = .ok (.iaload, 1) := by decide +kernel
theorem dG_findBasis_49 : decode cG_findBasis 49 = .ok (.iload_n 2, 1) := by decide +kernel
theorem dG_findBasis_50 : decode cG_findBasis 50 = .ok (.if_icmp .eq 58, 3) := by decide +kernel
theorem dG_findBasis_53 : decode cG_findBasis 53 = .ok (.aload_n 0, 1) := by decide +kernel
theorem dG_findBasis_54 : decode cG_findBasis 54 = .ok (.getfield 21, 3) := by decide +kernel
theorem dG_findBasis_57 : decode cG_findBasis 57 = .ok (.iload_n 1, 1) := by decide +kernel
theorem dG_findBasis_58 : decode cG_findBasis 58 = .ok (.iaload, 1) := by decide +kernel
theorem dG_findBasis_59 : decode cG_findBasis 59 = .ok (.iload_n 2, 1) := by decide +kernel
theorem dG_findBasis_60 : decode cG_findBasis 60 = .ok (.iconst 1, 1) := by decide +kernel
theorem dG_findBasis_61 : decode cG_findBasis 61 = .ok (.ixor, 1) := by decide +kernel
theorem dG_findBasis_62 : decode cG_findBasis 62 = .ok (.if_icmp .eq 46, 3) := by decide +kernel
theorem dG_findBasis_65 : decode cG_findBasis 65 = .ok (.aload_n 0, 1) := by decide +kernel
theorem dG_findBasis_66 : decode cG_findBasis 66 = .ok (.dup, 1) := by decide +kernel
theorem dG_findBasis_67 : decode cG_findBasis 67 = .ok (.getfield 40, 3) := by decide +kernel
theorem dG_findBasis_70 : decode cG_findBasis 70 = .ok (.iconst 1, 1) := by decide +kernel
theorem dG_findBasis_71 : decode cG_findBasis 71 = .ok (.iadd, 1) := by decide +kernel
theorem dG_findBasis_72 : decode cG_findBasis 72 = .ok (.putfield 40, 3) := by decide +kernel
theorem dG_findBasis_75 : decode cG_findBasis 75 = .ok (.aload_n 0, 1) := by decide +kernel
theorem dG_findBasis_76 : decode cG_findBasis 76 = .ok (.getfield 15, 3) := by decide +kernel
theorem dG_findBasis_79 : decode cG_findBasis 79 = .ok (.iload_n 1, 1) := by decide +kernel
theorem dG_findBasis_80 : decode cG_findBasis 80 = .ok (.bipush 6, 2) := by decide +kernel
theorem dG_findBasis_82 : decode cG_findBasis 82 = .ok (.imul, 1) := by decide +kernel
theorem dG_findBasis_83 : decode cG_findBasis 83 = .ok (.iload_n 2, 1) := by decide +kernel
theorem dG_findBasis_84 : decode cG_findBasis 84 = .ok (.iadd, 1) := by decide +kernel
theorem dG_findBasis_85 : decode cG_findBasis 85 = .ok (.aload_n 0, 1) := by decide +kernel
theorem dG_findBasis_86 : decode cG_findBasis 86 = .ok (.getfield 40, 3) := by decide +kernel
theorem dG_findBasis_89 : decode cG_findBasis 89 = .ok (.iastore, 1) := by decide +kernel
theorem dG_findBasis_90 : decode cG_findBasis 90 = .ok (.aload_n 0, 1) := by decide +kernel
theorem dG_findBasis_91 : decode cG_findBasis 91 = .ok (.getfield 15, 3) := by decide +kernel
theorem dG_findBasis_94 : decode cG_findBasis 94 = .ok (.iload_n 3, 1) := by decide +kernel
theorem dG_findBasis_95 : decode cG_findBasis 95 = .ok (.bipush 6, 2) := by decide +kernel
theorem dG_findBasis_97 : decode cG_findBasis 97 = .ok (.imul, 1) := by decide +kernel
theorem dG_findBasis_98 : decode cG_findBasis 98 = .ok (.iload_n 2, 1) := by decide +kernel
theorem dG_findBasis_99 : decode cG_findBasis 99 = .ok (.iconst 1, 1) := by decide +kernel
theorem dG_findBasis_100 : decode cG_findBasis 100 = .ok (.ixor, 1) := by decide +kernel
theorem dG_findBasis_101 : decode cG_findBasis 101 = .ok (.iadd, 1) := by decide +kernel
theorem dG_findBasis_102 : decode cG_findBasis 102 = .ok (.aload_n 0, 1) := by decide +kernel
theorem dG_findBasis_103 : decode cG_findBasis 103 = .ok (.getfield 40, 3) := by decide +kernel
theorem dG_findBasis_106 : decode cG_findBasis 106 = .ok (.ineg, 1) := by decide +kernel
theorem dG_findBasis_107 : decode cG_findBasis 107 = .ok (.iastore, 1) := by decide +kernel
theorem dG_findBasis_108 : decode cG_findBasis 108 = .ok (.iinc 2 2, 3) := by decide +kernel
theorem dG_findBasis_111 : decode cG_findBasis 111 = .ok (.goto (-99), 3) := by decide +kernel
theorem dG_findBasis_114 : decode cG_findBasis 114 = .ok (.iinc 1 1, 3) := by decide +kernel
theorem dG_findBasis_117 : decode cG_findBasis 117 = .ok (.goto (-115), 3) := by decide +kernel
theorem dG_findBasis_120 : decode cG_findBasis 120 = .ok (.return_, 1) := by decide +kernel
theorem dG_slotOfElement_0 : decode cG_slotOfElement 0 = .ok (.iload_n 1, 1) := by decide +kernel
theorem dG_slotOfElement_1 : decode cG_slotOfElement 1 = .ok (.ifCond .lt 11, 3) := by decide +kernel
theorem dG_slotOfElement_4 : decode cG_slotOfElement 4 = .ok (.iload_n 1, 1) := by decide +kernel
theorem dG_slotOfElement_5 : decode cG_slotOfElement 5 = .ok (.aload_n 0, 1) := by decide +kernel
theorem dG_slotOfElement_6 : decode cG_slotOfElement 6 = .ok (.getfield 40, 3) := by decide +kernel
theorem dG_slotOfElement_9 : decode cG_slotOfElement 9 = .ok (.if_icmp .lt 5, 3) := by decide +kernel
theorem dG_slotOfElement_12 : decode cG_slotOfElement 12 = .ok (.iconst (-1), 1) := by decide +kernel
theorem dG_slotOfElement_13 : decode cG_slotOfElement 13 = .ok (.ireturn, 1) := by decide +kernel
theorem dG_slotOfElement_14 : decode cG_slotOfElement 14 = .ok (.iconst 0, 1) := by decide +kernel
theorem dG_slotOfElement_15 : decode cG_slotOfElement 15 = .ok (.istore_n 2, 1) := by decide +kernel
theorem dG_slotOfElement_16 : decode cG_slotOfElement 16 = .ok (.iload_n 2, 1) := by decide +kernel
theorem dG_slotOfElement_17 : decode cG_slotOfElement 17 = .ok (.aload_n 0, 1) := by decide +kernel
theorem dG_slotOfElement_18 : decode cG_slotOfElement 18 = .ok (.getfield 33, 3) := by decide +kernel
theorem dG_slotOfElement_21 : decode cG_slotOfElement 21 = .ok (.bipush 6, 2) := by decide +kernel
theorem dG_slotOfElement_23 : decode cG_slotOfElement 23 = .ok (.imul, 1) := by decide +kernel
theorem dG_slotOfElement_24 : decode cG_slotOfElement 24 = .ok (.if_icmp .ge 23, 3) := by decide +kernel
theorem dG_slotOfElement_27 : decode cG_slotOfElement 27 = .ok (.aload_n 0, 1) := by decide +kernel
theorem dG_slotOfElement_28 : decode cG_slotOfElement 28 = .ok (.getfield 15, 3) := by decide +kernel
theorem dG_slotOfElement_31 : decode cG_slotOfElement 31 = .ok (.iload_n 2, 1) := by decide +kernel
theorem dG_slotOfElement_32 : decode cG_slotOfElement 32 = .ok (.iaload, 1) := by decide +kernel
theorem dG_slotOfElement_33 : decode cG_slotOfElement 33 = .ok (.iload_n 1, 1) := by decide +kernel
theorem dG_slotOfElement_34 : decode cG_slotOfElement 34 = .ok (.iconst 1, 1) := by decide +kernel
theorem dG_slotOfElement_35 : decode cG_slotOfElement 35 = .ok (.iadd, 1) := by decide +kernel
theorem dG_slotOfElement_36 : decode cG_slotOfElement 36 = .ok (.if_icmp .ne 5, 3) := by decide +kernel
theorem dG_slotOfElement_39 : decode cG_slotOfElement 39 = .ok (.iload_n 2, 1) := by decide +kernel
theorem dG_slotOfElement_40 : decode cG_slotOfElement 40 = .ok (.ireturn, 1) := by decide +kernel
theorem dG_slotOfElement_41 : decode cG_slotOfElement 41 = .ok (.iinc 2 1, 3) := by decide +kernel
theorem dG_slotOfElement_44 : decode cG_slotOfElement 44 = .ok (.goto (-28), 3) := by decide +kernel
theorem dG_slotOfElement_47 : decode cG_slotOfElement 47 = .ok (.iconst (-1), 1) := by decide +kernel
theorem dG_slotOfElement_48 : decode cG_slotOfElement 48 = .ok (.ireturn, 1) := by decide +kernel
theorem dG_elementSize_0 : decode cG_elementSize 0 = .ok (.aload_n 0, 1) := by decide +kernel
theorem dG_elementSize_1 : decode cG_elementSize 1 = .ok (.getfield 24, 3) := by decide +kernel
theorem dG_elementSize_4 : decode cG_elementSize 4 = .ok (.iload_n 1, 1) := by decide +kernel
theorem dG_elementSize_5 : decode cG_elementSize 5 = .ok (.bipush 6, 2) := by decide +kernel
theorem dG_elementSize_7 : decode cG_elementSize 7 = .ok (.idiv, 1) := by decide +kernel
theorem dG_elementSize_8 : decode cG_elementSize 8 = .ok (.iaload, 1) := by decide +kernel
theorem dG_elementSize_9 : decode cG_elementSize 9 = .ok (.iconst 1, 1) := by decide +kernel
theorem dG_elementSize_10 : decode cG_elementSize 10 = .ok (.iadd, 1) := by decide +kernel
theorem dG_elementSize_11 : decode cG_elementSize 11 = .ok (.aload_n 0, 1) := by decide +kernel
theorem dG_elementSize_12 : decode cG_elementSize 12 = .ok (.getfield 24, 3) := by decide +kernel
theorem dG_elementSize_15 : decode cG_elementSize 15 = .ok (.aload_n 0, 1) := by decide +kernel
theorem dG_elementSize_16 : decode cG_elementSize 16 = .ok (.getfield 9, 3) := by decide +kernel
theorem dG_elementSize_19 : decode cG_elementSize 19 = .ok (.iload_n 1, 1) := by decide +kernel
theorem dG_elementSize_20 : decode cG_elementSize 20 = .ok (.iaload, 1) := by decide +kernel
theorem dG_elementSize_21 : decode cG_elementSize 21 = .ok (.iaload, 1) := by decide +kernel
theorem dG_elementSize_22 : decode cG_elementSize 22 = .ok (.iadd, 1) := by decide +kernel
theorem dG_elementSize_23 : decode cG_elementSize 23 = .ok (.ireturn, 1) := by decide +kernel
theorem dG_elementLetter_0 : decode cG_elementLetter 0 = .ok (.iload_n 1, 1) := by decide +kernel
theorem dG_elementLetter_1 : decode cG_elementLetter 1 = .ok (.bipush 6, 2) := by decide +kernel
theorem dG_elementLetter_3 : decode cG_elementLetter 3 = .ok (.idiv, 1) := by decide +kernel
theorem dG_elementLetter_4 : decode cG_elementLetter 4 = .ok (.istore_n 3, 1) := by decide +kernel
theorem dG_elementLetter_5 : decode cG_elementLetter 5 = .ok (.aload_n 0, 1) := by decide +kernel
theorem dG_elementLetter_6 : decode cG_elementLetter 6 = .ok (.getfield 24, 3) := by decide +kernel
theorem dG_elementLetter_9 : decode cG_elementLetter 9 = .ok (.iload_n 3, 1) := by decide +kernel
end
section
theorem dG_elementLetter_10 : decode cG_elementLetter 10 = .ok (.iaload, 1) := by decide +kernel
theorem dG_elementLetter_11 : decode cG_elementLetter 11 = .ok (.istore 4, 2) := by decide +kernel
theorem dG_elementLetter_13 : decode cG_elementLetter 13 = .ok (.iload_n 2, 1) := by decide +kernel
theorem dG_elementLetter_14 : decode cG_elementLetter 14 = .ok (.iload 4, 2) := by decide +kernel
theorem dG_elementLetter_16 : decode cG_elementLetter 16 = .ok (.if_icmp .ge 23, 3) := by decide +kernel
theorem dG_elementLetter_19 : decode cG_elementLetter 19 = .ok (.aload_n 0, 1) := by decide +kernel
theorem dG_elementLetter_20 : decode cG_elementLetter 20 = .ok (.getfield 21, 3) := by decide +kernel
theorem dG_elementLetter_23 : decode cG_elementLetter 23 = .ok (.aload_n 0, 1) := by decide +kernel
theorem dG_elementLetter_24 : decode cG_elementLetter 24 = .ok (.iload_n 3, 1) := by decide +kernel
theorem dG_elementLetter_25 : decode cG_elementLetter 25 = .ok (.iload 4, 2) := by decide +kernel
theorem dG_elementLetter_27 : decode cG_elementLetter 27 = .ok (.iconst 1, 1) := by decide +kernel
theorem dG_elementLetter_28 : decode cG_elementLetter 28 = .ok (.isub, 1) := by decide +kernel
theorem dG_elementLetter_29 : decode cG_elementLetter 29 = .ok (.iload_n 2, 1) := by decide +kernel
theorem dG_elementLetter_30 : decode cG_elementLetter 30 = .ok (.isub, 1) := by decide +kernel
theorem dG_elementLetter_31 : decode cG_elementLetter 31 = .ok (.invokevirtual 53, 3) := by decide +kernel
theorem dG_elementLetter_34 : decode cG_elementLetter 34 = .ok (.iaload, 1) := by decide +kernel
theorem dG_elementLetter_35 : decode cG_elementLetter 35 = .ok (.invokestatic 56, 3) := by decide +kernel
theorem dG_elementLetter_38 : decode cG_elementLetter 38 = .ok (.ireturn, 1) := by decide +kernel
theorem dG_elementLetter_39 : decode cG_elementLetter 39 = .ok (.iload_n 2, 1) := by decide +kernel
theorem dG_elementLetter_40 : decode cG_elementLetter 40 = .ok (.iload 4, 2) := by decide +kernel
theorem dG_elementLetter_42 : decode cG_elementLetter 42 = .ok (.if_icmp .ne 11, 3) := by decide +kernel
theorem dG_elementLetter_45 : decode cG_elementLetter 45 = .ok (.iload_n 1, 1) := by decide +kernel
theorem dG_elementLetter_46 : decode cG_elementLetter 46 = .ok (.bipush 6, 2) := by decide +kernel
theorem dG_elementLetter_48 : decode cG_elementLetter 48 = .ok (.irem, 1) := by decide +kernel
theorem dG_elementLetter_49 : decode cG_elementLetter 49 = .ok (.invokestatic 56, 3) := by decide +kernel
theorem dG_elementLetter_52 : decode cG_elementLetter 52 = .ok (.ireturn, 1) := by decide +kernel
theorem dG_elementLetter_53 : decode cG_elementLetter 53 = .ok (.aload_n 0, 1) := by decide +kernel
theorem dG_elementLetter_54 : decode cG_elementLetter 54 = .ok (.getfield 21, 3) := by decide +kernel
theorem dG_elementLetter_57 : decode cG_elementLetter 57 = .ok (.aload_n 0, 1) := by decide +kernel
theorem dG_elementLetter_58 : decode cG_elementLetter 58 = .ok (.aload_n 0, 1) := by decide +kernel
theorem dG_elementLetter_59 : decode cG_elementLetter 59 = .ok (.getfield 9, 3) := by decide +kernel
theorem dG_elementLetter_62 : decode cG_elementLetter 62 = .ok (.iload_n 1, 1) := by decide +kernel
theorem dG_elementLetter_63 : decode cG_elementLetter 63 = .ok (.iaload, 1) := by decide +kernel
theorem dG_elementLetter_64 : decode cG_elementLetter 64 = .ok (.iload_n 2, 1) := by decide +kernel
theorem dG_elementLetter_65 : decode cG_elementLetter 65 = .ok (.iload 4, 2) := by decide +kernel
theorem dG_elementLetter_67 : decode cG_elementLetter 67 = .ok (.isub, 1) := by decide +kernel
theorem dG_elementLetter_68 : decode cG_elementLetter 68 = .ok (.iconst 1, 1) := by decide +kernel
theorem dG_elementLetter_69 : decode cG_elementLetter 69 = .ok (.isub, 1) := by decide +kernel
theorem dG_elementLetter_70 : decode cG_elementLetter 70 = .ok (.invokevirtual 53, 3) := by decide +kernel
theorem dG_elementLetter_73 : decode cG_elementLetter 73 = .ok (.iaload, 1) := by decide +kernel
theorem dG_elementLetter_74 : decode cG_elementLetter 74 = .ok (.invokestatic 56, 3) := by decide +kernel
theorem dG_elementLetter_77 : decode cG_elementLetter 77 = .ok (.ineg, 1) := by decide +kernel
theorem dG_elementLetter_78 : decode cG_elementLetter 78 = .ok (.ireturn, 1) := by decide +kernel
theorem dG_climb_0 : decode cG_climb 0 = .ok (.iload_n 1, 1) := by decide +kernel
theorem dG_climb_1 : decode cG_climb 1 = .ok (.istore_n 3, 1) := by decide +kernel
theorem dG_climb_2 : decode cG_climb 2 = .ok (.iconst 0, 1) := by decide +kernel
theorem dG_climb_3 : decode cG_climb 3 = .ok (.istore 4, 2) := by decide +kernel
theorem dG_climb_5 : decode cG_climb 5 = .ok (.iload 4, 2) := by decide +kernel
theorem dG_climb_7 : decode cG_climb 7 = .ok (.iload_n 2, 1) := by decide +kernel
theorem dG_climb_8 : decode cG_climb 8 = .ok (.if_icmp .ge 16, 3) := by decide +kernel
theorem dG_climb_11 : decode cG_climb 11 = .ok (.aload_n 0, 1) := by decide +kernel
theorem dG_climb_12 : decode cG_climb 12 = .ok (.getfield 18, 3) := by decide +kernel
theorem dG_climb_15 : decode cG_climb 15 = .ok (.iload_n 3, 1) := by decide +kernel
theorem dG_climb_16 : decode cG_climb 16 = .ok (.iaload, 1) := by decide +kernel
theorem dG_climb_17 : decode cG_climb 17 = .ok (.istore_n 3, 1) := by decide +kernel
theorem dG_climb_18 : decode cG_climb 18 = .ok (.iinc 4 1, 3) := by decide +kernel
theorem dG_climb_21 : decode cG_climb 21 = .ok (.goto (-16), 3) := by decide +kernel
theorem dG_climb_24 : decode cG_climb 24 = .ok (.iload_n 3, 1) := by decide +kernel
theorem dG_climb_25 : decode cG_climb 25 = .ok (.ireturn, 1) := by decide +kernel
theorem dG_liesUpon_0 : decode cG_liesUpon 0 = .ok (.aload_n 0, 1) := by decide +kernel
theorem dG_liesUpon_1 : decode cG_liesUpon 1 = .ok (.getfield 27, 3) := by decide +kernel
theorem dG_liesUpon_4 : decode cG_liesUpon 4 = .ok (.iconst 0, 1) := by decide +kernel
theorem dG_liesUpon_5 : decode cG_liesUpon 5 = .ok (.iload_n 2, 1) := by decide +kernel
theorem dG_liesUpon_6 : decode cG_liesUpon 6 = .ok (.iastore, 1) := by decide +kernel
theorem dG_liesUpon_7 : decode cG_liesUpon 7 = .ok (.iconst 1, 1) := by decide +kernel
theorem dG_liesUpon_8 : decode cG_liesUpon 8 = .ok (.istore_n 3, 1) := by decide +kernel
theorem dG_liesUpon_9 : decode cG_liesUpon 9 = .ok (.iload_n 3, 1) := by decide +kernel
theorem dG_liesUpon_10 : decode cG_liesUpon 10 = .ok (.aload_n 0, 1) := by decide +kernel
theorem dG_liesUpon_11 : decode cG_liesUpon 11 = .ok (.getfield 33, 3) := by decide +kernel
theorem dG_liesUpon_14 : decode cG_liesUpon 14 = .ok (.if_icmp .ge 48, 3) := by decide +kernel
theorem dG_liesUpon_17 : decode cG_liesUpon 17 = .ok (.aload_n 0, 1) := by decide +kernel
theorem dG_liesUpon_18 : decode cG_liesUpon 18 = .ok (.getfield 27, 3) := by decide +kernel
theorem dG_liesUpon_21 : decode cG_liesUpon 21 = .ok (.iload_n 3, 1) := by decide +kernel
theorem dG_liesUpon_22 : decode cG_liesUpon 22 = .ok (.aload_n 1, 1) := by decide +kernel
theorem dG_liesUpon_23 : decode cG_liesUpon 23 = .ok (.aload_n 0, 1) := by decide +kernel
theorem dG_liesUpon_24 : decode cG_liesUpon 24 = .ok (.getfield 27, 3) := by decide +kernel
theorem dG_liesUpon_27 : decode cG_liesUpon 27 = .ok (.aload_n 0, 1) := by decide +kernel
theorem dG_liesUpon_28 : decode cG_liesUpon 28 = .ok (.getfield 18, 3) := by decide +kernel
theorem dG_liesUpon_31 : decode cG_liesUpon 31 = .ok (.iload_n 3, 1) := by decide +kernel
theorem dG_liesUpon_32 : decode cG_liesUpon 32 = .ok (.iaload, 1) := by decide +kernel
theorem dG_liesUpon_33 : decode cG_liesUpon 33 = .ok (.iaload, 1) := by decide +kernel
theorem dG_liesUpon_34 : decode cG_liesUpon 34 = .ok (.aload_n 0, 1) := by decide +kernel
theorem dG_liesUpon_35 : decode cG_liesUpon 35 = .ok (.getfield 21, 3) := by decide +kernel
theorem dG_liesUpon_38 : decode cG_liesUpon 38 = .ok (.iload_n 3, 1) := by decide +kernel
theorem dG_liesUpon_39 : decode cG_liesUpon 39 = .ok (.iaload, 1) := by decide +kernel
theorem dG_liesUpon_40 : decode cG_liesUpon 40 = .ok (.invokevirtual 49, 3) := by decide +kernel
theorem dG_liesUpon_43 : decode cG_liesUpon 43 = .ok (.iastore, 1) := by decide +kernel
theorem dG_liesUpon_44 : decode cG_liesUpon 44 = .ok (.aload_n 0, 1) := by decide +kernel
theorem dG_liesUpon_45 : decode cG_liesUpon 45 = .ok (.getfield 27, 3) := by decide +kernel
theorem dG_liesUpon_48 : decode cG_liesUpon 48 = .ok (.iload_n 3, 1) := by decide +kernel
theorem dG_liesUpon_49 : decode cG_liesUpon 49 = .ok (.iaload, 1) := by decide +kernel
theorem dG_liesUpon_50 : decode cG_liesUpon 50 = .ok (.iconst (-1), 1) := by decide +kernel
theorem dG_liesUpon_51 : decode cG_liesUpon 51 = .ok (.if_icmp .ne 5, 3) := by decide +kernel
theorem dG_liesUpon_54 : decode cG_liesUpon 54 = .ok (.iconst 0, 1) := by decide +kernel
theorem dG_liesUpon_55 : decode cG_liesUpon 55 = .ok (.ireturn, 1) := by decide +kernel
theorem dG_liesUpon_56 : decode cG_liesUpon 56 = .ok (.iinc 3 1, 3) := by decide +kernel
theorem dG_liesUpon_59 : decode cG_liesUpon 59 = .ok (.goto (-50), 3) := by decide +kernel
theorem dG_liesUpon_62 : decode cG_liesUpon 62 = .ok (.iconst 0, 1) := by decide +kernel
theorem dG_liesUpon_63 : decode cG_liesUpon 63 = .ok (.istore_n 3, 1) := by decide +kernel
theorem dG_liesUpon_64 : decode cG_liesUpon 64 = .ok (.iload_n 3, 1) := by decide +kernel
theorem dG_liesUpon_65 : decode cG_liesUpon 65 = .ok (.aload_n 0, 1) := by decide +kernel
theorem dG_liesUpon_66 : decode cG_liesUpon 66 = .ok (.getfield 33, 3) := by decide +kernel
theorem dG_liesUpon_69 : decode cG_liesUpon 69 = .ok (.if_icmp .ge 64, 3) := by decide +kernel
theorem dG_liesUpon_72 : decode cG_liesUpon 72 = .ok (.iconst 0, 1) := by decide +kernel
theorem dG_liesUpon_73 : decode cG_liesUpon 73 = .ok (.istore 4, 2) := by decide +kernel
theorem dG_liesUpon_75 : decode cG_liesUpon 75 = .ok (.iload 4, 2) := by decide +kernel
theorem dG_liesUpon_77 : decode cG_liesUpon 77 = .ok (.bipush 6, 2) := by decide +kernel
theorem dG_liesUpon_79 : decode cG_liesUpon 79 = .ok (.if_icmp .ge 48, 3) := by decide +kernel
theorem dG_liesUpon_82 : decode cG_liesUpon 82 = .ok (.aload_n 0, 1) := by decide +kernel
theorem dG_liesUpon_83 : decode cG_liesUpon 83 = .ok (.iload_n 3, 1) := by decide +kernel
theorem dG_liesUpon_84 : decode cG_liesUpon 84 = .ok (.iload 4, 2) := by decide +kernel
theorem dG_liesUpon_86 : decode cG_liesUpon 86 = .ok (.invokevirtual 49, 3) := by decide +kernel
theorem dG_liesUpon_89 : decode cG_liesUpon 89 = .ok (.istore 5, 2) := by decide +kernel
theorem dG_liesUpon_91 : decode cG_liesUpon 91 = .ok (.iload 5, 2) := by decide +kernel
theorem dG_liesUpon_93 : decode cG_liesUpon 93 = .ok (.iconst (-1), 1) := by decide +kernel
theorem dG_liesUpon_94 : decode cG_liesUpon 94 = .ok (.if_icmp .eq 27, 3) := by decide +kernel
theorem dG_liesUpon_97 : decode cG_liesUpon 97 = .ok (.aload_n 1, 1) := by decide +kernel
theorem dG_liesUpon_98 : decode cG_liesUpon 98 = .ok (.aload_n 0, 1) := by decide +kernel
theorem dG_liesUpon_99 : decode cG_liesUpon 99 = .ok (.getfield 27, 3) := by decide +kernel
theorem dG_liesUpon_102 : decode cG_liesUpon 102 = .ok (.iload_n 3, 1) := by decide +kernel
theorem dG_liesUpon_103 : decode cG_liesUpon 103 = .ok (.iaload, 1) := by decide +kernel
theorem dG_liesUpon_104 : decode cG_liesUpon 104 = .ok (.iload 4, 2) := by decide +kernel
theorem dG_liesUpon_106 : decode cG_liesUpon 106 = .ok (.invokevirtual 49, 3) := by decide +kernel
theorem dG_liesUpon_109 : decode cG_liesUpon 109 = .ok (.aload_n 0, 1) := by decide +kernel
theorem dG_liesUpon_110 : decode cG_liesUpon 110 = .ok (.getfield 27, 3) := by decide +kernel
theorem dG_liesUpon_113 : decode cG_liesUpon 113 = .ok (.iload 5, 2) := by decide +kernel
theorem dG_liesUpon_115 : decode cG_liesUpon 115 = .ok (.iaload, 1) := by decide +kernel
theorem dG_liesUpon_116 : decode cG_liesUpon 116 = .ok (.if_icmp .eq 5, 3) := by decide +kernel
theorem dG_liesUpon_119 : decode cG_liesUpon 119 = .ok (.iconst 0, 1) := by decide +kernel
theorem dG_liesUpon_120 : decode cG_liesUpon 120 = .ok (.ireturn, 1) := by decide +kernel
theorem dG_liesUpon_121 : decode cG_liesUpon 121 = .ok (.iinc 4 2, 3) := by decide +kernel
theorem dG_liesUpon_124 : decode cG_liesUpon 124 = .ok (.goto (-49), 3) := by decide +kernel
theorem dG_liesUpon_127 : decode cG_liesUpon 127 = .ok (.iinc 3 1, 3) := by decide +kernel
theorem dG_liesUpon_130 : decode cG_liesUpon 130 = .ok (.goto (-66), 3) := by decide +kernel
theorem dG_liesUpon_133 : decode cG_liesUpon 133 = .ok (.iconst 1, 1) := by decide +kernel
theorem dG_liesUpon_134 : decode cG_liesUpon 134 = .ok (.ireturn, 1) := by decide +kernel
theorem dW_init_0 : decode cW_init 0 = .ok (.aload_n 0, 1) := by decide +kernel
theorem dW_init_1 : decode cW_init 1 = .ok (.invokespecial 3, 3) := by decide +kernel
theorem dW_init_4 : decode cW_init 4 = .ok (.aload_n 0, 1) := by decide +kernel
theorem dW_init_5 : decode cW_init 5 = .ok (.bipush 24, 2) := by decide +kernel
theorem dW_init_7 : decode cW_init 7 = .ok (.newarray .int, 2) := by decide +kernel
theorem dW_init_9 : decode cW_init 9 = .ok (.putfield 9, 3) := by decide +kernel
theorem dW_init_12 : decode cW_init 12 = .ok (.aload_n 0, 1) := by decide +kernel
theorem dW_init_13 : decode cW_init 13 = .ok (.iconst 0, 1) := by decide +kernel
theorem dW_init_14 : decode cW_init 14 = .ok (.putfield 15, 3) := by decide +kernel
theorem dW_init_17 : decode cW_init 17 = .ok (.return_, 1) := by decide +kernel
theorem dW_append_0 : decode cW_append 0 = .ok (.aload_n 0, 1) := by decide +kernel
theorem dW_append_1 : decode cW_append 1 = .ok (.getfield 15, 3) := by decide +kernel
theorem dW_append_4 : decode cW_append 4 = .ok (.ifCond .le 34, 3) := by decide +kernel
theorem dW_append_7 : decode cW_append 7 = .ok (.aload_n 0, 1) := by decide +kernel
theorem dW_append_8 : decode cW_append 8 = .ok (.getfield 9, 3) := by decide +kernel
theorem dW_append_11 : decode cW_append 11 = .ok (.aload_n 0, 1) := by decide +kernel
theorem dW_append_12 : decode cW_append 12 = .ok (.getfield 15, 3) := by decide +kernel
theorem dW_append_15 : decode cW_append 15 = .ok (.iconst 1, 1) := by decide +kernel
theorem dW_append_16 : decode cW_append 16 = .ok (.isub, 1) := by decide +kernel
theorem dW_append_17 : decode cW_append 17 = .ok (.iaload, 1) := by decide +kernel
theorem dW_append_18 : decode cW_append 18 = .ok (.iload_n 1, 1) := by decide +kernel
theorem dW_append_19 : decode cW_append 19 = .ok (.ineg, 1) := by decide +kernel
theorem dW_append_20 : decode cW_append 20 = .ok (.if_icmp .ne 18, 3) := by decide +kernel
theorem dW_append_23 : decode cW_append 23 = .ok (.aload_n 0, 1) := by decide +kernel
theorem dW_append_24 : decode cW_append 24 = .ok (.dup, 1) := by decide +kernel
theorem dW_append_25 : decode cW_append 25 = .ok (.getfield 15, 3) := by decide +kernel
theorem dW_append_28 : decode cW_append 28 = .ok (.iconst 1, 1) := by decide +kernel
theorem dW_append_29 : decode cW_append 29 = .ok (.isub, 1) := by decide +kernel
theorem dW_append_30 : decode cW_append 30 = .ok (.putfield 15, 3) := by decide +kernel
theorem dW_append_33 : decode cW_append 33 = .ok (.aload_n 0, 1) := by decide +kernel
theorem dW_append_34 : decode cW_append 34 = .ok (.getfield 15, 3) := by decide +kernel
theorem dW_append_37 : decode cW_append 37 = .ok (.ireturn, 1) := by decide +kernel
theorem dW_append_38 : decode cW_append 38 = .ok (.aload_n 0, 1) := by decide +kernel
theorem dW_append_39 : decode cW_append 39 = .ok (.getfield 15, 3) := by decide +kernel
theorem dW_append_42 : decode cW_append 42 = .ok (.bipush 24, 2) := by decide +kernel
theorem dW_append_44 : decode cW_append 44 = .ok (.if_icmp .lt 6, 3) := by decide +kernel
theorem dW_append_47 : decode cW_append 47 = .ok (.bipush (-2), 2) := by decide +kernel
theorem dW_append_49 : decode cW_append 49 = .ok (.ireturn, 1) := by decide +kernel
theorem dW_append_50 : decode cW_append 50 = .ok (.aload_n 0, 1) := by decide +kernel
theorem dW_append_51 : decode cW_append 51 = .ok (.getfield 9, 3) := by decide +kernel
theorem dW_append_54 : decode cW_append 54 = .ok (.aload_n 0, 1) := by decide +kernel
theorem dW_append_55 : decode cW_append 55 = .ok (.getfield 15, 3) := by decide +kernel
theorem dW_append_58 : decode cW_append 58 = .ok (.iload_n 1, 1) := by decide +kernel
theorem dW_append_59 : decode cW_append 59 = .ok (.iastore, 1) := by decide +kernel
theorem dW_append_60 : decode cW_append 60 = .ok (.aload_n 0, 1) := by decide +kernel
theorem dW_append_61 : decode cW_append 61 = .ok (.dup, 1) := by decide +kernel
theorem dW_append_62 : decode cW_append 62 = .ok (.getfield 15, 3) := by decide +kernel
theorem dW_append_65 : decode cW_append 65 = .ok (.iconst 1, 1) := by decide +kernel
theorem dW_append_66 : decode cW_append 66 = .ok (.iadd, 1) := by decide +kernel
theorem dW_append_67 : decode cW_append 67 = .ok (.putfield 15, 3) := by decide +kernel
theorem dW_append_70 : decode cW_append 70 = .ok (.aload_n 0, 1) := by decide +kernel
theorem dW_append_71 : decode cW_append 71 = .ok (.getfield 15, 3) := by decide +kernel
theorem dW_append_74 : decode cW_append 74 = .ok (.ireturn, 1) := by decide +kernel
theorem dW_turnRound_0 : decode cW_turnRound 0 = .ok (.iconst 0, 1) := by decide +kernel
theorem dW_turnRound_1 : decode cW_turnRound 1 = .ok (.istore_n 1, 1) := by decide +kernel
theorem dW_turnRound_2 : decode cW_turnRound 2 = .ok (.aload_n 0, 1) := by decide +kernel
theorem dW_turnRound_3 : decode cW_turnRound 3 = .ok (.getfield 15, 3) := by decide +kernel
theorem dW_turnRound_6 : decode cW_turnRound 6 = .ok (.iconst 1, 1) := by decide +kernel
theorem dW_turnRound_7 : decode cW_turnRound 7 = .ok (.isub, 1) := by decide +kernel
theorem dW_turnRound_8 : decode cW_turnRound 8 = .ok (.istore_n 2, 1) := by decide +kernel
theorem dW_turnRound_9 : decode cW_turnRound 9 = .ok (.iload_n 1, 1) := by decide +kernel
theorem dW_turnRound_10 : decode cW_turnRound 10 = .ok (.iload_n 2, 1) := by decide +kernel
theorem dW_turnRound_11 : decode cW_turnRound 11 = .ok (.if_icmp .gt 40, 3) := by decide +kernel
theorem dW_turnRound_14 : decode cW_turnRound 14 = .ok (.aload_n 0, 1) := by decide +kernel
theorem dW_turnRound_15 : decode cW_turnRound 15 = .ok (.getfield 9, 3) := by decide +kernel
theorem dW_turnRound_18 : decode cW_turnRound 18 = .ok (.iload_n 1, 1) := by decide +kernel
theorem dW_turnRound_19 : decode cW_turnRound 19 = .ok (.iaload, 1) := by decide +kernel
theorem dW_turnRound_20 : decode cW_turnRound 20 = .ok (.istore_n 3, 1) := by decide +kernel
theorem dW_turnRound_21 : decode cW_turnRound 21 = .ok (.aload_n 0, 1) := by decide +kernel
theorem dW_turnRound_22 : decode cW_turnRound 22 = .ok (.getfield 9, 3) := by decide +kernel
theorem dW_turnRound_25 : decode cW_turnRound 25 = .ok (.iload_n 1, 1) := by decide +kernel
theorem dW_turnRound_26 : decode cW_turnRound 26 = .ok (.aload_n 0, 1) := by decide +kernel
theorem dW_turnRound_27 : decode cW_turnRound 27 = .ok (.getfield 9, 3) := by decide +kernel
theorem dW_turnRound_30 : decode cW_turnRound 30 = .ok (.iload_n 2, 1) := by decide +kernel
theorem dW_turnRound_31 : decode cW_turnRound 31 = .ok (.iaload, 1) := by decide +kernel
theorem dW_turnRound_32 : decode cW_turnRound 32 = .ok (.ineg, 1) := by decide +kernel
theorem dW_turnRound_33 : decode cW_turnRound 33 = .ok (.iastore, 1) := by decide +kernel
theorem dW_turnRound_34 : decode cW_turnRound 34 = .ok (.aload_n 0, 1) := by decide +kernel
theorem dW_turnRound_35 : decode cW_turnRound 35 = .ok (.getfield 9, 3) := by decide +kernel
theorem dW_turnRound_38 : decode cW_turnRound 38 = .ok (.iload_n 2, 1) := by decide +kernel
theorem dW_turnRound_39 : decode cW_turnRound 39 = .ok (.iload_n 3, 1) := by decide +kernel
theorem dW_turnRound_40 : decode cW_turnRound 40 = .ok (.ineg, 1) := by decide +kernel
theorem dW_turnRound_41 : decode cW_turnRound 41 = .ok (.iastore, 1) := by decide +kernel
theorem dW_turnRound_42 : decode cW_turnRound 42 = .ok (.iinc 1 1, 3) := by decide +kernel
theorem dW_turnRound_45 : decode cW_turnRound 45 = .ok (.iinc 2 (-1), 3) := by decide +kernel
theorem dW_turnRound_48 : decode cW_turnRound 48 = .ok (.goto (-39), 3) := by decide +kernel
theorem dW_turnRound_51 : decode cW_turnRound 51 = .ok (.return_, 1) := by decide +kernel
theorem dL_cell_0 : decode cL_cell 0 = .ok (.iload_n 1, 1) := by decide +kernel
theorem dL_cell_1 : decode cL_cell 1 = .ok (.aload_n 0, 1) := by decide +kernel
theorem dL_cell_2 : decode cL_cell 2 = .ok (.arraylength, 1) := by decide +kernel
theorem dL_cell_3 : decode cL_cell 3 = .ok (.if_icmp .ge 9, 3) := by decide +kernel
theorem dL_cell_6 : decode cL_cell 6 = .ok (.aload_n 0, 1) := by decide +kernel
theorem dL_cell_7 : decode cL_cell 7 = .ok (.iload_n 1, 1) := by decide +kernel
theorem dL_cell_8 : decode cL_cell 8 = .ok (.iaload, 1) := by decide +kernel
theorem dL_cell_9 : decode cL_cell 9 = .ok (.goto 4, 3) := by decide +kernel
theorem dL_cell_12 : decode cL_cell 12 = .ok (.iconst 0, 1) := by decide +kernel
theorem dL_cell_13 : decode cL_cell 13 = .ok (.ireturn, 1) := by decide +kernel
theorem dL_law_0 : decode code 0 = .ok (.new 7, 3) := by decide +kernel
theorem dL_law_3 : decode code 3 = .ok (.dup, 1) := by decide +kernel
theorem dL_law_4 : decode code 4 = .ok (.aload_n 0, 1) := by decide +kernel
theorem dL_law_5 : decode code 5 = .ok (.iconst 0, 1) := by decide +kernel
theorem dL_law_6 : decode code 6 = .ok (.invokestatic 9, 3) := by decide +kernel
theorem dL_law_9 : decode code 9 = .ok (.invokespecial 15, 3) := by decide +kernel
theorem dL_law_12 : decode code 12 = .ok (.astore_n 1, 1) := by decide +kernel
theorem dL_law_13 : decode code 13 = .ok (.new 18, 3) := by decide +kernel
theorem dL_law_16 : decode code 16 = .ok (.dup, 1) := by decide +kernel
theorem dL_law_17 : decode code 17 = .ok (.aload_n 0, 1) := by decide +kernel
theorem dL_law_18 : decode code 18 = .ok (.iconst 0, 1) := by decide +kernel
theorem dL_law_19 : decode code 19 = .ok (.invokestatic 9, 3) := by decide +kernel
theorem dL_law_22 : decode code 22 = .ok (.invokespecial 20, 3) := by decide +kernel
theorem dL_law_25 : decode code 25 = .ok (.astore_n 2, 1) := by decide +kernel
theorem dL_law_26 : decode code 26 = .ok (.iconst 1, 1) := by decide +kernel
theorem dL_law_27 : decode code 27 = .ok (.istore_n 3, 1) := by decide +kernel
theorem dL_law_28 : decode code 28 = .ok (.iload_n 3, 1) := by decide +kernel
theorem dL_law_29 : decode code 29 = .ok (.aload_n 0, 1) := by decide +kernel
theorem dL_law_30 : decode code 30 = .ok (.arraylength, 1) := by decide +kernel
theorem dL_law_31 : decode code 31 = .ok (.iconst 4, 1) := by decide +kernel
theorem dL_law_32 : decode code 32 = .ok (.isub, 1) := by decide +kernel
theorem dL_law_33 : decode code 33 = .ok (.if_icmp .gt 662, 3) := by decide +kernel
theorem dL_law_36 : decode code 36 = .ok (.aload_n 0, 1) := by decide +kernel
theorem dL_law_37 : decode code 37 = .ok (.iload_n 3, 1) := by decide +kernel
theorem dL_law_38 : decode code 38 = .ok (.iaload, 1) := by decide +kernel
theorem dL_law_39 : decode code 39 = .ok (.bipush 31, 2) := by decide +kernel
theorem dL_law_41 : decode code 41 = .ok (.iand, 1) := by decide +kernel
theorem dL_law_42 : decode code 42 = .ok (.tableswitch 647 0 18 #[90, 113, 126, 139, 162, 195, 218, 241, 274, 317, 360, 383, 406, 439, 472, 515, 558, 591, 624], 90) := by decide +kernel
theorem dL_law_132 : decode code 132 = .ok (.aload_n 1, 1) := by decide +kernel
theorem dL_law_133 : decode code 133 = .ok (.aload_n 0, 1) := by decide +kernel
theorem dL_law_134 : decode code 134 = .ok (.iload_n 3, 1) := by decide +kernel
theorem dL_law_135 : decode code 135 = .ok (.iconst 1, 1) := by decide +kernel
theorem dL_law_136 : decode code 136 = .ok (.iadd, 1) := by decide +kernel
theorem dL_law_137 : decode code 137 = .ok (.iaload, 1) := by decide +kernel
theorem dL_law_138 : decode code 138 = .ok (.invokevirtual 21, 3) := by decide +kernel
theorem dL_law_141 : decode code 141 = .ok (.aload_n 2, 1) := by decide +kernel
theorem dL_law_142 : decode code 142 = .ok (.aload_n 0, 1) := by decide +kernel
theorem dL_law_143 : decode code 143 = .ok (.iload_n 3, 1) := by decide +kernel
theorem dL_law_144 : decode code 144 = .ok (.iconst 1, 1) := by decide +kernel
theorem dL_law_145 : decode code 145 = .ok (.iadd, 1) := by decide +kernel
theorem dL_law_146 : decode code 146 = .ok (.iaload, 1) := by decide +kernel
theorem dL_law_147 : decode code 147 = .ok (.invokevirtual 25, 3) := by decide +kernel
theorem dL_law_150 : decode code 150 = .ok (.if_icmp .eq 539, 3) := by decide +kernel
theorem dL_law_153 : decode code 153 = .ok (.iconst 0, 1) := by decide +kernel
theorem dL_law_154 : decode code 154 = .ok (.ireturn, 1) := by decide +kernel
theorem dL_law_155 : decode code 155 = .ok (.aload_n 1, 1) := by decide +kernel
theorem dL_law_156 : decode code 156 = .ok (.invokevirtual 26, 3) := by decide +kernel
theorem dL_law_159 : decode code 159 = .ok (.aload_n 2, 1) := by decide +kernel
theorem dL_law_160 : decode code 160 = .ok (.invokevirtual 30, 3) := by decide +kernel
theorem dL_law_163 : decode code 163 = .ok (.if_icmp .eq 526, 3) := by decide +kernel
theorem dL_law_166 : decode code 166 = .ok (.iconst 0, 1) := by decide +kernel
theorem dL_law_167 : decode code 167 = .ok (.ireturn, 1) := by decide +kernel
theorem dL_law_168 : decode code 168 = .ok (.aload_n 1, 1) := by decide +kernel
theorem dL_law_169 : decode code 169 = .ok (.invokevirtual 31, 3) := by decide +kernel
theorem dL_law_172 : decode code 172 = .ok (.aload_n 2, 1) := by decide +kernel
theorem dL_law_173 : decode code 173 = .ok (.invokevirtual 34, 3) := by decide +kernel
theorem dL_law_176 : decode code 176 = .ok (.if_icmp .eq 513, 3) := by decide +kernel
theorem dL_law_179 : decode code 179 = .ok (.iconst 0, 1) := by decide +kernel
theorem dL_law_180 : decode code 180 = .ok (.ireturn, 1) := by decide +kernel
theorem dL_law_181 : decode code 181 = .ok (.aload_n 1, 1) := by decide +kernel
theorem dL_law_182 : decode code 182 = .ok (.aload_n 0, 1) := by decide +kernel
theorem dL_law_183 : decode code 183 = .ok (.iload_n 3, 1) := by decide +kernel
theorem dL_law_184 : decode code 184 = .ok (.iconst 1, 1) := by decide +kernel
theorem dL_law_185 : decode code 185 = .ok (.iadd, 1) := by decide +kernel
theorem dL_law_186 : decode code 186 = .ok (.iaload, 1) := by decide +kernel
theorem dL_law_187 : decode code 187 = .ok (.invokevirtual 35, 3) := by decide +kernel
theorem dL_law_190 : decode code 190 = .ok (.aload_n 2, 1) := by decide +kernel
theorem dL_law_191 : decode code 191 = .ok (.aload_n 0, 1) := by decide +kernel
theorem dL_law_192 : decode code 192 = .ok (.iload_n 3, 1) := by decide +kernel
theorem dL_law_193 : decode code 193 = .ok (.iconst 1, 1) := by decide +kernel
theorem dL_law_194 : decode code 194 = .ok (.iadd, 1) := by decide +kernel
theorem dL_law_195 : decode code 195 = .ok (.iaload, 1) := by decide +kernel
theorem dL_law_196 : decode code 196 = .ok (.invokevirtual 38, 3) := by decide +kernel
theorem dL_law_199 : decode code 199 = .ok (.if_icmp .eq 490, 3) := by decide +kernel
theorem dL_law_202 : decode code 202 = .ok (.iconst 0, 1) := by decide +kernel
theorem dL_law_203 : decode code 203 = .ok (.ireturn, 1) := by decide +kernel
theorem dL_law_204 : decode code 204 = .ok (.aload_n 1, 1) := by decide +kernel
theorem dL_law_205 : decode code 205 = .ok (.aload_n 0, 1) := by decide +kernel
theorem dL_law_206 : decode code 206 = .ok (.iload_n 3, 1) := by decide +kernel
theorem dL_law_207 : decode code 207 = .ok (.iconst 1, 1) := by decide +kernel
theorem dL_law_208 : decode code 208 = .ok (.iadd, 1) := by decide +kernel
theorem dL_law_209 : decode code 209 = .ok (.iaload, 1) := by decide +kernel
theorem dL_law_210 : decode code 210 = .ok (.aload_n 0, 1) := by decide +kernel
theorem dL_law_211 : decode code 211 = .ok (.iload_n 3, 1) := by decide +kernel
theorem dL_law_212 : decode code 212 = .ok (.iconst 2, 1) := by decide +kernel
theorem dL_law_213 : decode code 213 = .ok (.iadd, 1) := by decide +kernel
theorem dL_law_214 : decode code 214 = .ok (.iaload, 1) := by decide +kernel
theorem dL_law_215 : decode code 215 = .ok (.invokevirtual 39, 3) := by decide +kernel
theorem dL_law_218 : decode code 218 = .ok (.aload_n 2, 1) := by decide +kernel
theorem dL_law_219 : decode code 219 = .ok (.aload_n 0, 1) := by decide +kernel
theorem dL_law_220 : decode code 220 = .ok (.iload_n 3, 1) := by decide +kernel
theorem dL_law_221 : decode code 221 = .ok (.iconst 1, 1) := by decide +kernel
theorem dL_law_222 : decode code 222 = .ok (.iadd, 1) := by decide +kernel
theorem dL_law_223 : decode code 223 = .ok (.iaload, 1) := by decide +kernel
theorem dL_law_224 : decode code 224 = .ok (.aload_n 0, 1) := by decide +kernel
theorem dL_law_225 : decode code 225 = .ok (.iload_n 3, 1) := by decide +kernel
theorem dL_law_226 : decode code 226 = .ok (.iconst 2, 1) := by decide +kernel
theorem dL_law_227 : decode code 227 = .ok (.iadd, 1) := by decide +kernel
theorem dL_law_228 : decode code 228 = .ok (.iaload, 1) := by decide +kernel
theorem dL_law_229 : decode code 229 = .ok (.invokevirtual 43, 3) := by decide +kernel
theorem dL_law_232 : decode code 232 = .ok (.if_icmp .eq 457, 3) := by decide +kernel
theorem dL_law_235 : decode code 235 = .ok (.iconst 0, 1) := by decide +kernel
theorem dL_law_236 : decode code 236 = .ok (.ireturn, 1) := by decide +kernel
theorem dL_law_237 : decode code 237 = .ok (.aload_n 1, 1) := by decide +kernel
theorem dL_law_238 : decode code 238 = .ok (.aload_n 0, 1) := by decide +kernel
theorem dL_law_239 : decode code 239 = .ok (.iload_n 3, 1) := by decide +kernel
theorem dL_law_240 : decode code 240 = .ok (.iconst 1, 1) := by decide +kernel
theorem dL_law_241 : decode code 241 = .ok (.iadd, 1) := by decide +kernel
theorem dL_law_242 : decode code 242 = .ok (.iaload, 1) := by decide +kernel
theorem dL_law_243 : decode code 243 = .ok (.invokevirtual 44, 3) := by decide +kernel
theorem dL_law_246 : decode code 246 = .ok (.aload_n 2, 1) := by decide +kernel
theorem dL_law_247 : decode code 247 = .ok (.aload_n 0, 1) := by decide +kernel
theorem dL_law_248 : decode code 248 = .ok (.iload_n 3, 1) := by decide +kernel
theorem dL_law_249 : decode code 249 = .ok (.iconst 1, 1) := by decide +kernel
theorem dL_law_250 : decode code 250 = .ok (.iadd, 1) := by decide +kernel
theorem dL_law_251 : decode code 251 = .ok (.iaload, 1) := by decide +kernel
theorem dL_law_252 : decode code 252 = .ok (.invokevirtual 47, 3) := by decide +kernel
theorem dL_law_255 : decode code 255 = .ok (.if_icmp .eq 434, 3) := by decide +kernel
theorem dL_law_258 : decode code 258 = .ok (.iconst 0, 1) := by decide +kernel
theorem dL_law_259 : decode code 259 = .ok (.ireturn, 1) := by decide +kernel
theorem dL_law_260 : decode code 260 = .ok (.aload_n 1, 1) := by decide +kernel
theorem dL_law_261 : decode code 261 = .ok (.aload_n 0, 1) := by decide +kernel
theorem dL_law_262 : decode code 262 = .ok (.iload_n 3, 1) := by decide +kernel
theorem dL_law_263 : decode code 263 = .ok (.iconst 1, 1) := by decide +kernel
theorem dL_law_264 : decode code 264 = .ok (.iadd, 1) := by decide +kernel
theorem dL_law_265 : decode code 265 = .ok (.iaload, 1) := by decide +kernel
theorem dL_law_266 : decode code 266 = .ok (.invokevirtual 48, 3) := by decide +kernel
theorem dL_law_269 : decode code 269 = .ok (.aload_n 2, 1) := by decide +kernel
theorem dL_law_270 : decode code 270 = .ok (.aload_n 0, 1) := by decide +kernel
theorem dL_law_271 : decode code 271 = .ok (.iload_n 3, 1) := by decide +kernel
theorem dL_law_272 : decode code 272 = .ok (.iconst 1, 1) := by decide +kernel
theorem dL_law_273 : decode code 273 = .ok (.iadd, 1) := by decide +kernel
theorem dL_law_274 : decode code 274 = .ok (.iaload, 1) := by decide +kernel
theorem dL_law_275 : decode code 275 = .ok (.invokevirtual 51, 3) := by decide +kernel
theorem dL_law_278 : decode code 278 = .ok (.if_icmp .eq 411, 3) := by decide +kernel
theorem dL_law_281 : decode code 281 = .ok (.iconst 0, 1) := by decide +kernel
theorem dL_law_282 : decode code 282 = .ok (.ireturn, 1) := by decide +kernel
theorem dL_law_283 : decode code 283 = .ok (.aload_n 1, 1) := by decide +kernel
theorem dL_law_284 : decode code 284 = .ok (.aload_n 0, 1) := by decide +kernel
theorem dL_law_285 : decode code 285 = .ok (.iload_n 3, 1) := by decide +kernel
theorem dL_law_286 : decode code 286 = .ok (.iconst 1, 1) := by decide +kernel
theorem dL_law_287 : decode code 287 = .ok (.iadd, 1) := by decide +kernel
theorem dL_law_288 : decode code 288 = .ok (.iaload, 1) := by decide +kernel
theorem dL_law_289 : decode code 289 = .ok (.aload_n 0, 1) := by decide +kernel
theorem dL_law_290 : decode code 290 = .ok (.iload_n 3, 1) := by decide +kernel
theorem dL_law_291 : decode code 291 = .ok (.iconst 2, 1) := by decide +kernel
theorem dL_law_292 : decode code 292 = .ok (.iadd, 1) := by decide +kernel
theorem dL_law_293 : decode code 293 = .ok (.iaload, 1) := by decide +kernel
theorem dL_law_294 : decode code 294 = .ok (.invokevirtual 52, 3) := by decide +kernel
theorem dL_law_297 : decode code 297 = .ok (.aload_n 2, 1) := by decide +kernel
theorem dL_law_298 : decode code 298 = .ok (.aload_n 0, 1) := by decide +kernel
theorem dL_law_299 : decode code 299 = .ok (.iload_n 3, 1) := by decide +kernel
theorem dL_law_300 : decode code 300 = .ok (.iconst 1, 1) := by decide +kernel
theorem dL_law_301 : decode code 301 = .ok (.iadd, 1) := by decide +kernel
theorem dL_law_302 : decode code 302 = .ok (.iaload, 1) := by decide +kernel
theorem dL_law_303 : decode code 303 = .ok (.aload_n 0, 1) := by decide +kernel
theorem dL_law_304 : decode code 304 = .ok (.iload_n 3, 1) := by decide +kernel
theorem dL_law_305 : decode code 305 = .ok (.iconst 2, 1) := by decide +kernel
theorem dL_law_306 : decode code 306 = .ok (.iadd, 1) := by decide +kernel
theorem dL_law_307 : decode code 307 = .ok (.iaload, 1) := by decide +kernel
theorem dL_law_308 : decode code 308 = .ok (.invokevirtual 55, 3) := by decide +kernel
theorem dL_law_311 : decode code 311 = .ok (.if_icmp .eq 378, 3) := by decide +kernel
theorem dL_law_314 : decode code 314 = .ok (.iconst 0, 1) := by decide +kernel
theorem dL_law_315 : decode code 315 = .ok (.ireturn, 1) := by decide +kernel
theorem dL_law_316 : decode code 316 = .ok (.aload_n 1, 1) := by decide +kernel
theorem dL_law_317 : decode code 317 = .ok (.aload_n 0, 1) := by decide +kernel
theorem dL_law_318 : decode code 318 = .ok (.iload_n 3, 1) := by decide +kernel
theorem dL_law_319 : decode code 319 = .ok (.iconst 1, 1) := by decide +kernel
theorem dL_law_320 : decode code 320 = .ok (.iadd, 1) := by decide +kernel
theorem dL_law_321 : decode code 321 = .ok (.iaload, 1) := by decide +kernel
theorem dL_law_322 : decode code 322 = .ok (.aload_n 0, 1) := by decide +kernel
theorem dL_law_323 : decode code 323 = .ok (.iload_n 3, 1) := by decide +kernel
theorem dL_law_324 : decode code 324 = .ok (.iconst 2, 1) := by decide +kernel
theorem dL_law_325 : decode code 325 = .ok (.iadd, 1) := by decide +kernel
theorem dL_law_326 : decode code 326 = .ok (.iaload, 1) := by decide +kernel
theorem dL_law_327 : decode code 327 = .ok (.aload_n 0, 1) := by decide +kernel
theorem dL_law_328 : decode code 328 = .ok (.iload_n 3, 1) := by decide +kernel
theorem dL_law_329 : decode code 329 = .ok (.iconst 3, 1) := by decide +kernel
theorem dL_law_330 : decode code 330 = .ok (.iadd, 1) := by decide +kernel
theorem dL_law_331 : decode code 331 = .ok (.iaload, 1) := by decide +kernel
theorem dL_law_332 : decode code 332 = .ok (.invokevirtual 56, 3) := by decide +kernel
theorem dL_law_335 : decode code 335 = .ok (.aload_n 2, 1) := by decide +kernel
theorem dL_law_336 : decode code 336 = .ok (.aload_n 0, 1) := by decide +kernel
theorem dL_law_337 : decode code 337 = .ok (.iload_n 3, 1) := by decide +kernel
theorem dL_law_338 : decode code 338 = .ok (.iconst 1, 1) := by decide +kernel
theorem dL_law_339 : decode code 339 = .ok (.iadd, 1) := by decide +kernel
theorem dL_law_340 : decode code 340 = .ok (.iaload, 1) := by decide +kernel
theorem dL_law_341 : decode code 341 = .ok (.aload_n 0, 1) := by decide +kernel
theorem dL_law_342 : decode code 342 = .ok (.iload_n 3, 1) := by decide +kernel
theorem dL_law_343 : decode code 343 = .ok (.iconst 2, 1) := by decide +kernel
theorem dL_law_344 : decode code 344 = .ok (.iadd, 1) := by decide +kernel
theorem dL_law_345 : decode code 345 = .ok (.iaload, 1) := by decide +kernel
theorem dL_law_346 : decode code 346 = .ok (.aload_n 0, 1) := by decide +kernel
theorem dL_law_347 : decode code 347 = .ok (.iload_n 3, 1) := by decide +kernel
theorem dL_law_348 : decode code 348 = .ok (.iconst 3, 1) := by decide +kernel
theorem dL_law_349 : decode code 349 = .ok (.iadd, 1) := by decide +kernel
theorem dL_law_350 : decode code 350 = .ok (.iaload, 1) := by decide +kernel
theorem dL_law_351 : decode code 351 = .ok (.invokevirtual 60, 3) := by decide +kernel
theorem dL_law_354 : decode code 354 = .ok (.if_icmp .eq 335, 3) := by decide +kernel
theorem dL_law_357 : decode code 357 = .ok (.iconst 0, 1) := by decide +kernel
theorem dL_law_358 : decode code 358 = .ok (.ireturn, 1) := by decide +kernel
theorem dL_law_359 : decode code 359 = .ok (.aload_n 1, 1) := by decide +kernel
theorem dL_law_360 : decode code 360 = .ok (.aload_n 0, 1) := by decide +kernel
theorem dL_law_361 : decode code 361 = .ok (.iload_n 3, 1) := by decide +kernel
theorem dL_law_362 : decode code 362 = .ok (.iconst 1, 1) := by decide +kernel
theorem dL_law_363 : decode code 363 = .ok (.iadd, 1) := by decide +kernel
theorem dL_law_364 : decode code 364 = .ok (.iaload, 1) := by decide +kernel
theorem dL_law_365 : decode code 365 = .ok (.aload_n 0, 1) := by decide +kernel
theorem dL_law_366 : decode code 366 = .ok (.iload_n 3, 1) := by decide +kernel
theorem dL_law_367 : decode code 367 = .ok (.iconst 2, 1) := by decide +kernel
theorem dL_law_368 : decode code 368 = .ok (.iadd, 1) := by decide +kernel
theorem dL_law_369 : decode code 369 = .ok (.iaload, 1) := by decide +kernel
theorem dL_law_370 : decode code 370 = .ok (.aload_n 0, 1) := by decide +kernel
theorem dL_law_371 : decode code 371 = .ok (.iload_n 3, 1) := by decide +kernel
theorem dL_law_372 : decode code 372 = .ok (.iconst 3, 1) := by decide +kernel
theorem dL_law_373 : decode code 373 = .ok (.iadd, 1) := by decide +kernel
theorem dL_law_374 : decode code 374 = .ok (.iaload, 1) := by decide +kernel
theorem dL_law_375 : decode code 375 = .ok (.invokevirtual 61, 3) := by decide +kernel
theorem dL_law_378 : decode code 378 = .ok (.aload_n 2, 1) := by decide +kernel
theorem dL_law_379 : decode code 379 = .ok (.aload_n 0, 1) := by decide +kernel
theorem dL_law_380 : decode code 380 = .ok (.iload_n 3, 1) := by decide +kernel
theorem dL_law_381 : decode code 381 = .ok (.iconst 1, 1) := by decide +kernel
theorem dL_law_382 : decode code 382 = .ok (.iadd, 1) := by decide +kernel
theorem dL_law_383 : decode code 383 = .ok (.iaload, 1) := by decide +kernel
theorem dL_law_384 : decode code 384 = .ok (.aload_n 0, 1) := by decide +kernel
theorem dL_law_385 : decode code 385 = .ok (.iload_n 3, 1) := by decide +kernel
theorem dL_law_386 : decode code 386 = .ok (.iconst 2, 1) := by decide +kernel
theorem dL_law_387 : decode code 387 = .ok (.iadd, 1) := by decide +kernel
theorem dL_law_388 : decode code 388 = .ok (.iaload, 1) := by decide +kernel
theorem dL_law_389 : decode code 389 = .ok (.aload_n 0, 1) := by decide +kernel
theorem dL_law_390 : decode code 390 = .ok (.iload_n 3, 1) := by decide +kernel
theorem dL_law_391 : decode code 391 = .ok (.iconst 3, 1) := by decide +kernel
theorem dL_law_392 : decode code 392 = .ok (.iadd, 1) := by decide +kernel
theorem dL_law_393 : decode code 393 = .ok (.iaload, 1) := by decide +kernel
theorem dL_law_394 : decode code 394 = .ok (.invokevirtual 64, 3) := by decide +kernel
theorem dL_law_397 : decode code 397 = .ok (.if_icmp .eq 292, 3) := by decide +kernel
theorem dL_law_400 : decode code 400 = .ok (.iconst 0, 1) := by decide +kernel
theorem dL_law_401 : decode code 401 = .ok (.ireturn, 1) := by decide +kernel
theorem dL_law_402 : decode code 402 = .ok (.aload_n 1, 1) := by decide +kernel
theorem dL_law_403 : decode code 403 = .ok (.aload_n 0, 1) := by decide +kernel
theorem dL_law_404 : decode code 404 = .ok (.iload_n 3, 1) := by decide +kernel
theorem dL_law_405 : decode code 405 = .ok (.iconst 1, 1) := by decide +kernel
theorem dL_law_406 : decode code 406 = .ok (.iadd, 1) := by decide +kernel
theorem dL_law_407 : decode code 407 = .ok (.iaload, 1) := by decide +kernel
theorem dL_law_408 : decode code 408 = .ok (.invokevirtual 65, 3) := by decide +kernel
theorem dL_law_411 : decode code 411 = .ok (.aload_n 2, 1) := by decide +kernel
theorem dL_law_412 : decode code 412 = .ok (.aload_n 0, 1) := by decide +kernel
theorem dL_law_413 : decode code 413 = .ok (.iload_n 3, 1) := by decide +kernel
theorem dL_law_414 : decode code 414 = .ok (.iconst 1, 1) := by decide +kernel
theorem dL_law_415 : decode code 415 = .ok (.iadd, 1) := by decide +kernel
theorem dL_law_416 : decode code 416 = .ok (.iaload, 1) := by decide +kernel
theorem dL_law_417 : decode code 417 = .ok (.invokevirtual 69, 3) := by decide +kernel
theorem dL_law_420 : decode code 420 = .ok (.if_icmp .eq 269, 3) := by decide +kernel
theorem dL_law_423 : decode code 423 = .ok (.iconst 0, 1) := by decide +kernel
theorem dL_law_424 : decode code 424 = .ok (.ireturn, 1) := by decide +kernel
theorem dL_law_425 : decode code 425 = .ok (.aload_n 1, 1) := by decide +kernel
theorem dL_law_426 : decode code 426 = .ok (.aload_n 0, 1) := by decide +kernel
theorem dL_law_427 : decode code 427 = .ok (.iload_n 3, 1) := by decide +kernel
theorem dL_law_428 : decode code 428 = .ok (.iconst 1, 1) := by decide +kernel
theorem dL_law_429 : decode code 429 = .ok (.iadd, 1) := by decide +kernel
theorem dL_law_430 : decode code 430 = .ok (.iaload, 1) := by decide +kernel
theorem dL_law_431 : decode code 431 = .ok (.invokevirtual 70, 3) := by decide +kernel
theorem dL_law_434 : decode code 434 = .ok (.aload_n 2, 1) := by decide +kernel
theorem dL_law_435 : decode code 435 = .ok (.aload_n 0, 1) := by decide +kernel
theorem dL_law_436 : decode code 436 = .ok (.iload_n 3, 1) := by decide +kernel
theorem dL_law_437 : decode code 437 = .ok (.iconst 1, 1) := by decide +kernel
theorem dL_law_438 : decode code 438 = .ok (.iadd, 1) := by decide +kernel
theorem dL_law_439 : decode code 439 = .ok (.iaload, 1) := by decide +kernel
theorem dL_law_440 : decode code 440 = .ok (.invokevirtual 73, 3) := by decide +kernel
theorem dL_law_443 : decode code 443 = .ok (.if_icmp .eq 246, 3) := by decide +kernel
theorem dL_law_446 : decode code 446 = .ok (.iconst 0, 1) := by decide +kernel
theorem dL_law_447 : decode code 447 = .ok (.ireturn, 1) := by decide +kernel
theorem dL_law_448 : decode code 448 = .ok (.aload_n 1, 1) := by decide +kernel
theorem dL_law_449 : decode code 449 = .ok (.aload_n 0, 1) := by decide +kernel
theorem dL_law_450 : decode code 450 = .ok (.iload_n 3, 1) := by decide +kernel
theorem dL_law_451 : decode code 451 = .ok (.iconst 1, 1) := by decide +kernel
theorem dL_law_452 : decode code 452 = .ok (.iadd, 1) := by decide +kernel
theorem dL_law_453 : decode code 453 = .ok (.iaload, 1) := by decide +kernel
theorem dL_law_454 : decode code 454 = .ok (.aload_n 0, 1) := by decide +kernel
theorem dL_law_455 : decode code 455 = .ok (.iload_n 3, 1) := by decide +kernel
theorem dL_law_456 : decode code 456 = .ok (.iconst 2, 1) := by decide +kernel
theorem dL_law_457 : decode code 457 = .ok (.iadd, 1) := by decide +kernel
theorem dL_law_458 : decode code 458 = .ok (.iaload, 1) := by decide +kernel
theorem dL_law_459 : decode code 459 = .ok (.invokevirtual 74, 3) := by decide +kernel
theorem dL_law_462 : decode code 462 = .ok (.aload_n 2, 1) := by decide +kernel
theorem dL_law_463 : decode code 463 = .ok (.aload_n 0, 1) := by decide +kernel
theorem dL_law_464 : decode code 464 = .ok (.iload_n 3, 1) := by decide +kernel
theorem dL_law_465 : decode code 465 = .ok (.iconst 1, 1) := by decide +kernel
theorem dL_law_466 : decode code 466 = .ok (.iadd, 1) := by decide +kernel
theorem dL_law_467 : decode code 467 = .ok (.iaload, 1) := by decide +kernel
theorem dL_law_468 : decode code 468 = .ok (.aload_n 0, 1) := by decide +kernel
theorem dL_law_469 : decode code 469 = .ok (.iload_n 3, 1) := by decide +kernel
theorem dL_law_470 : decode code 470 = .ok (.iconst 2, 1) := by decide +kernel
theorem dL_law_471 : decode code 471 = .ok (.iadd, 1) := by decide +kernel
theorem dL_law_472 : decode code 472 = .ok (.iaload, 1) := by decide +kernel
theorem dL_law_473 : decode code 473 = .ok (.invokevirtual 77, 3) := by decide +kernel
theorem dL_law_476 : decode code 476 = .ok (.if_icmp .eq 213, 3) := by decide +kernel
theorem dL_law_479 : decode code 479 = .ok (.iconst 0, 1) := by decide +kernel
theorem dL_law_480 : decode code 480 = .ok (.ireturn, 1) := by decide +kernel
theorem dL_law_481 : decode code 481 = .ok (.aload_n 1, 1) := by decide +kernel
theorem dL_law_482 : decode code 482 = .ok (.aload_n 0, 1) := by decide +kernel
theorem dL_law_483 : decode code 483 = .ok (.iload_n 3, 1) := by decide +kernel
theorem dL_law_484 : decode code 484 = .ok (.iconst 1, 1) := by decide +kernel
theorem dL_law_485 : decode code 485 = .ok (.iadd, 1) := by decide +kernel
theorem dL_law_486 : decode code 486 = .ok (.iaload, 1) := by decide +kernel
theorem dL_law_487 : decode code 487 = .ok (.aload_n 0, 1) := by decide +kernel
theorem dL_law_488 : decode code 488 = .ok (.iload_n 3, 1) := by decide +kernel
theorem dL_law_489 : decode code 489 = .ok (.iconst 2, 1) := by decide +kernel
theorem dL_law_490 : decode code 490 = .ok (.iadd, 1) := by decide +kernel
theorem dL_law_491 : decode code 491 = .ok (.iaload, 1) := by decide +kernel
theorem dL_law_492 : decode code 492 = .ok (.invokevirtual 78, 3) := by decide +kernel
theorem dL_law_495 : decode code 495 = .ok (.aload_n 2, 1) := by decide +kernel
theorem dL_law_496 : decode code 496 = .ok (.aload_n 0, 1) := by decide +kernel
theorem dL_law_497 : decode code 497 = .ok (.iload_n 3, 1) := by decide +kernel
theorem dL_law_498 : decode code 498 = .ok (.iconst 1, 1) := by decide +kernel
theorem dL_law_499 : decode code 499 = .ok (.iadd, 1) := by decide +kernel
theorem dL_law_500 : decode code 500 = .ok (.iaload, 1) := by decide +kernel
theorem dL_law_501 : decode code 501 = .ok (.aload_n 0, 1) := by decide +kernel
theorem dL_law_502 : decode code 502 = .ok (.iload_n 3, 1) := by decide +kernel
theorem dL_law_503 : decode code 503 = .ok (.iconst 2, 1) := by decide +kernel
theorem dL_law_504 : decode code 504 = .ok (.iadd, 1) := by decide +kernel
theorem dL_law_505 : decode code 505 = .ok (.iaload, 1) := by decide +kernel
theorem dL_law_506 : decode code 506 = .ok (.invokevirtual 81, 3) := by decide +kernel
theorem dL_law_509 : decode code 509 = .ok (.if_icmp .eq 180, 3) := by decide +kernel
theorem dL_law_512 : decode code 512 = .ok (.iconst 0, 1) := by decide +kernel
theorem dL_law_513 : decode code 513 = .ok (.ireturn, 1) := by decide +kernel
theorem dL_law_514 : decode code 514 = .ok (.aload_n 1, 1) := by decide +kernel
theorem dL_law_515 : decode code 515 = .ok (.aload_n 0, 1) := by decide +kernel
theorem dL_law_516 : decode code 516 = .ok (.iload_n 3, 1) := by decide +kernel
theorem dL_law_517 : decode code 517 = .ok (.iconst 1, 1) := by decide +kernel
theorem dL_law_518 : decode code 518 = .ok (.iadd, 1) := by decide +kernel
theorem dL_law_519 : decode code 519 = .ok (.iaload, 1) := by decide +kernel
theorem dL_law_520 : decode code 520 = .ok (.aload_n 0, 1) := by decide +kernel
theorem dL_law_521 : decode code 521 = .ok (.iload_n 3, 1) := by decide +kernel
theorem dL_law_522 : decode code 522 = .ok (.iconst 2, 1) := by decide +kernel
theorem dL_law_523 : decode code 523 = .ok (.iadd, 1) := by decide +kernel
theorem dL_law_524 : decode code 524 = .ok (.iaload, 1) := by decide +kernel
theorem dL_law_525 : decode code 525 = .ok (.aload_n 0, 1) := by decide +kernel
theorem dL_law_526 : decode code 526 = .ok (.iload_n 3, 1) := by decide +kernel
theorem dL_law_527 : decode code 527 = .ok (.iconst 3, 1) := by decide +kernel
theorem dL_law_528 : decode code 528 = .ok (.iadd, 1) := by decide +kernel
theorem dL_law_529 : decode code 529 = .ok (.iaload, 1) := by decide +kernel
theorem dL_law_530 : decode code 530 = .ok (.invokevirtual 82, 3) := by decide +kernel
theorem dL_law_533 : decode code 533 = .ok (.aload_n 2, 1) := by decide +kernel
theorem dL_law_534 : decode code 534 = .ok (.aload_n 0, 1) := by decide +kernel
theorem dL_law_535 : decode code 535 = .ok (.iload_n 3, 1) := by decide +kernel
theorem dL_law_536 : decode code 536 = .ok (.iconst 1, 1) := by decide +kernel
theorem dL_law_537 : decode code 537 = .ok (.iadd, 1) := by decide +kernel
theorem dL_law_538 : decode code 538 = .ok (.iaload, 1) := by decide +kernel
theorem dL_law_539 : decode code 539 = .ok (.aload_n 0, 1) := by decide +kernel
theorem dL_law_540 : decode code 540 = .ok (.iload_n 3, 1) := by decide +kernel
theorem dL_law_541 : decode code 541 = .ok (.iconst 2, 1) := by decide +kernel
theorem dL_law_542 : decode code 542 = .ok (.iadd, 1) := by decide +kernel
theorem dL_law_543 : decode code 543 = .ok (.iaload, 1) := by decide +kernel
theorem dL_law_544 : decode code 544 = .ok (.aload_n 0, 1) := by decide +kernel
theorem dL_law_545 : decode code 545 = .ok (.iload_n 3, 1) := by decide +kernel
theorem dL_law_546 : decode code 546 = .ok (.iconst 3, 1) := by decide +kernel
theorem dL_law_547 : decode code 547 = .ok (.iadd, 1) := by decide +kernel
theorem dL_law_548 : decode code 548 = .ok (.iaload, 1) := by decide +kernel
theorem dL_law_549 : decode code 549 = .ok (.invokevirtual 85, 3) := by decide +kernel
theorem dL_law_552 : decode code 552 = .ok (.if_icmp .eq 137, 3) := by decide +kernel
theorem dL_law_555 : decode code 555 = .ok (.iconst 0, 1) := by decide +kernel
theorem dL_law_556 : decode code 556 = .ok (.ireturn, 1) := by decide +kernel
theorem dL_law_557 : decode code 557 = .ok (.aload_n 1, 1) := by decide +kernel
theorem dL_law_558 : decode code 558 = .ok (.aload_n 0, 1) := by decide +kernel
theorem dL_law_559 : decode code 559 = .ok (.iload_n 3, 1) := by decide +kernel
theorem dL_law_560 : decode code 560 = .ok (.iconst 1, 1) := by decide +kernel
theorem dL_law_561 : decode code 561 = .ok (.iadd, 1) := by decide +kernel
theorem dL_law_562 : decode code 562 = .ok (.iaload, 1) := by decide +kernel
theorem dL_law_563 : decode code 563 = .ok (.aload_n 0, 1) := by decide +kernel
theorem dL_law_564 : decode code 564 = .ok (.iload_n 3, 1) := by decide +kernel
theorem dL_law_565 : decode code 565 = .ok (.iconst 2, 1) := by decide +kernel
theorem dL_law_566 : decode code 566 = .ok (.iadd, 1) := by decide +kernel
theorem dL_law_567 : decode code 567 = .ok (.iaload, 1) := by decide +kernel
theorem dL_law_568 : decode code 568 = .ok (.aload_n 0, 1) := by decide +kernel
theorem dL_law_569 : decode code 569 = .ok (.iload_n 3, 1) := by decide +kernel
theorem dL_law_570 : decode code 570 = .ok (.iconst 3, 1) := by decide +kernel
theorem dL_law_571 : decode code 571 = .ok (.iadd, 1) := by decide +kernel
theorem dL_law_572 : decode code 572 = .ok (.iaload, 1) := by decide +kernel
theorem dL_law_573 : decode code 573 = .ok (.invokevirtual 86, 3) := by decide +kernel
theorem dL_law_576 : decode code 576 = .ok (.aload_n 2, 1) := by decide +kernel
theorem dL_law_577 : decode code 577 = .ok (.aload_n 0, 1) := by decide +kernel
theorem dL_law_578 : decode code 578 = .ok (.iload_n 3, 1) := by decide +kernel
theorem dL_law_579 : decode code 579 = .ok (.iconst 1, 1) := by decide +kernel
theorem dL_law_580 : decode code 580 = .ok (.iadd, 1) := by decide +kernel
theorem dL_law_581 : decode code 581 = .ok (.iaload, 1) := by decide +kernel
theorem dL_law_582 : decode code 582 = .ok (.aload_n 0, 1) := by decide +kernel
theorem dL_law_583 : decode code 583 = .ok (.iload_n 3, 1) := by decide +kernel
theorem dL_law_584 : decode code 584 = .ok (.iconst 2, 1) := by decide +kernel
theorem dL_law_585 : decode code 585 = .ok (.iadd, 1) := by decide +kernel
theorem dL_law_586 : decode code 586 = .ok (.iaload, 1) := by decide +kernel
theorem dL_law_587 : decode code 587 = .ok (.aload_n 0, 1) := by decide +kernel
theorem dL_law_588 : decode code 588 = .ok (.iload_n 3, 1) := by decide +kernel
theorem dL_law_589 : decode code 589 = .ok (.iconst 3, 1) := by decide +kernel
theorem dL_law_590 : decode code 590 = .ok (.iadd, 1) := by decide +kernel
theorem dL_law_591 : decode code 591 = .ok (.iaload, 1) := by decide +kernel
theorem dL_law_592 : decode code 592 = .ok (.invokevirtual 89, 3) := by decide +kernel
theorem dL_law_595 : decode code 595 = .ok (.if_icmp .eq 94, 3) := by decide +kernel
theorem dL_law_598 : decode code 598 = .ok (.iconst 0, 1) := by decide +kernel
theorem dL_law_599 : decode code 599 = .ok (.ireturn, 1) := by decide +kernel
theorem dL_law_600 : decode code 600 = .ok (.aload_n 1, 1) := by decide +kernel
theorem dL_law_601 : decode code 601 = .ok (.aload_n 0, 1) := by decide +kernel
theorem dL_law_602 : decode code 602 = .ok (.iload_n 3, 1) := by decide +kernel
theorem dL_law_603 : decode code 603 = .ok (.iconst 1, 1) := by decide +kernel
theorem dL_law_604 : decode code 604 = .ok (.iadd, 1) := by decide +kernel
theorem dL_law_605 : decode code 605 = .ok (.iaload, 1) := by decide +kernel
theorem dL_law_606 : decode code 606 = .ok (.aload_n 0, 1) := by decide +kernel
theorem dL_law_607 : decode code 607 = .ok (.iload_n 3, 1) := by decide +kernel
theorem dL_law_608 : decode code 608 = .ok (.iconst 2, 1) := by decide +kernel
theorem dL_law_609 : decode code 609 = .ok (.iadd, 1) := by decide +kernel
theorem dL_law_610 : decode code 610 = .ok (.iaload, 1) := by decide +kernel
theorem dL_law_611 : decode code 611 = .ok (.invokevirtual 90, 3) := by decide +kernel
theorem dL_law_614 : decode code 614 = .ok (.aload_n 2, 1) := by decide +kernel
theorem dL_law_615 : decode code 615 = .ok (.aload_n 0, 1) := by decide +kernel
theorem dL_law_616 : decode code 616 = .ok (.iload_n 3, 1) := by decide +kernel
theorem dL_law_617 : decode code 617 = .ok (.iconst 1, 1) := by decide +kernel
theorem dL_law_618 : decode code 618 = .ok (.iadd, 1) := by decide +kernel
theorem dL_law_619 : decode code 619 = .ok (.iaload, 1) := by decide +kernel
theorem dL_law_620 : decode code 620 = .ok (.aload_n 0, 1) := by decide +kernel
theorem dL_law_621 : decode code 621 = .ok (.iload_n 3, 1) := by decide +kernel
theorem dL_law_622 : decode code 622 = .ok (.iconst 2, 1) := by decide +kernel
theorem dL_law_623 : decode code 623 = .ok (.iadd, 1) := by decide +kernel
theorem dL_law_624 : decode code 624 = .ok (.iaload, 1) := by decide +kernel
theorem dL_law_625 : decode code 625 = .ok (.invokevirtual 93, 3) := by decide +kernel
theorem dL_law_628 : decode code 628 = .ok (.if_icmp .eq 61, 3) := by decide +kernel
theorem dL_law_631 : decode code 631 = .ok (.iconst 0, 1) := by decide +kernel
theorem dL_law_632 : decode code 632 = .ok (.ireturn, 1) := by decide +kernel
theorem dL_law_633 : decode code 633 = .ok (.aload_n 1, 1) := by decide +kernel
theorem dL_law_634 : decode code 634 = .ok (.aload_n 0, 1) := by decide +kernel
theorem dL_law_635 : decode code 635 = .ok (.iload_n 3, 1) := by decide +kernel
theorem dL_law_636 : decode code 636 = .ok (.iconst 1, 1) := by decide +kernel
theorem dL_law_637 : decode code 637 = .ok (.iadd, 1) := by decide +kernel
theorem dL_law_638 : decode code 638 = .ok (.iaload, 1) := by decide +kernel
theorem dL_law_639 : decode code 639 = .ok (.aload_n 0, 1) := by decide +kernel
theorem dL_law_640 : decode code 640 = .ok (.iload_n 3, 1) := by decide +kernel
theorem dL_law_641 : decode code 641 = .ok (.iconst 2, 1) := by decide +kernel
theorem dL_law_642 : decode code 642 = .ok (.iadd, 1) := by decide +kernel
theorem dL_law_643 : decode code 643 = .ok (.iaload, 1) := by decide +kernel
theorem dL_law_644 : decode code 644 = .ok (.invokevirtual 94, 3) := by decide +kernel
theorem dL_law_647 : decode code 647 = .ok (.aload_n 2, 1) := by decide +kernel
theorem dL_law_648 : decode code 648 = .ok (.aload_n 0, 1) := by decide +kernel
theorem dL_law_649 : decode code 649 = .ok (.iload_n 3, 1) := by decide +kernel
theorem dL_law_650 : decode code 650 = .ok (.iconst 1, 1) := by decide +kernel
theorem dL_law_651 : decode code 651 = .ok (.iadd, 1) := by decide +kernel
theorem dL_law_652 : decode code 652 = .ok (.iaload, 1) := by decide +kernel
theorem dL_law_653 : decode code 653 = .ok (.aload_n 0, 1) := by decide +kernel
theorem dL_law_654 : decode code 654 = .ok (.iload_n 3, 1) := by decide +kernel
theorem dL_law_655 : decode code 655 = .ok (.iconst 2, 1) := by decide +kernel
theorem dL_law_656 : decode code 656 = .ok (.iadd, 1) := by decide +kernel
theorem dL_law_657 : decode code 657 = .ok (.iaload, 1) := by decide +kernel
theorem dL_law_658 : decode code 658 = .ok (.invokevirtual 98, 3) := by decide +kernel
theorem dL_law_661 : decode code 661 = .ok (.if_icmp .eq 28, 3) := by decide +kernel
theorem dL_law_664 : decode code 664 = .ok (.iconst 0, 1) := by decide +kernel
theorem dL_law_665 : decode code 665 = .ok (.ireturn, 1) := by decide +kernel
theorem dL_law_666 : decode code 666 = .ok (.aload_n 1, 1) := by decide +kernel
theorem dL_law_667 : decode code 667 = .ok (.aload_n 0, 1) := by decide +kernel
theorem dL_law_668 : decode code 668 = .ok (.iload_n 3, 1) := by decide +kernel
theorem dL_law_669 : decode code 669 = .ok (.iconst 1, 1) := by decide +kernel
theorem dL_law_670 : decode code 670 = .ok (.iadd, 1) := by decide +kernel
theorem dL_law_671 : decode code 671 = .ok (.iaload, 1) := by decide +kernel
theorem dL_law_672 : decode code 672 = .ok (.invokevirtual 99, 3) := by decide +kernel
theorem dL_law_675 : decode code 675 = .ok (.aload_n 2, 1) := by decide +kernel
theorem dL_law_676 : decode code 676 = .ok (.aload_n 0, 1) := by decide +kernel
theorem dL_law_677 : decode code 677 = .ok (.iload_n 3, 1) := by decide +kernel
theorem dL_law_678 : decode code 678 = .ok (.iconst 1, 1) := by decide +kernel
theorem dL_law_679 : decode code 679 = .ok (.iadd, 1) := by decide +kernel
theorem dL_law_680 : decode code 680 = .ok (.iaload, 1) := by decide +kernel
end
section
theorem dL_law_681 : decode code 681 = .ok (.invokevirtual 102, 3) := by decide +kernel
theorem dL_law_684 : decode code 684 = .ok (.if_icmp .eq 5, 3) := by decide +kernel
theorem dL_law_687 : decode code 687 = .ok (.iconst 0, 1) := by decide +kernel
theorem dL_law_688 : decode code 688 = .ok (.ireturn, 1) := by decide +kernel
theorem dL_law_689 : decode code 689 = .ok (.iinc 3 4, 3) := by decide +kernel
theorem dL_law_692 : decode code 692 = .ok (.goto (-664), 3) := by decide +kernel
theorem dL_law_695 : decode code 695 = .ok (.iconst 1, 1) := by decide +kernel
theorem dL_law_696 : decode code 696 = .ok (.ireturn, 1) := by decide +kernel
theorem dJ_fill_0 : decode cJ_fill 0 = .ok (.iconst 0, 1) := by decide +kernel
theorem dJ_fill_1 : decode cJ_fill 1 = .ok (.istore_n 2, 1) := by decide +kernel
theorem dJ_fill_2 : decode cJ_fill 2 = .ok (.aload_n 0, 1) := by decide +kernel
theorem dJ_fill_3 : decode cJ_fill 3 = .ok (.arraylength, 1) := by decide +kernel
theorem dJ_fill_4 : decode cJ_fill 4 = .ok (.istore_n 3, 1) := by decide +kernel
theorem dJ_fill_5 : decode cJ_fill 5 = .ok (.iload_n 2, 1) := by decide +kernel
theorem dJ_fill_6 : decode cJ_fill 6 = .ok (.iload_n 3, 1) := by decide +kernel
theorem dJ_fill_7 : decode cJ_fill 7 = .ok (.if_icmp .ge 13, 3) := by decide +kernel
theorem dJ_fill_10 : decode cJ_fill 10 = .ok (.aload_n 0, 1) := by decide +kernel
theorem dJ_fill_11 : decode cJ_fill 11 = .ok (.iload_n 2, 1) := by decide +kernel
theorem dJ_fill_12 : decode cJ_fill 12 = .ok (.iload_n 1, 1) := by decide +kernel
theorem dJ_fill_13 : decode cJ_fill 13 = .ok (.iastore, 1) := by decide +kernel
theorem dJ_fill_14 : decode cJ_fill 14 = .ok (.iinc 2 1, 3) := by decide +kernel
theorem dJ_fill_17 : decode cJ_fill 17 = .ok (.goto (-12), 3) := by decide +kernel
theorem dJ_fill_20 : decode cJ_fill 20 = .ok (.return_, 1) := by decide +kernel
end
section
def fillA (g : Nat → Int) (n : Nat) (v : Int) : Nat → Int := fun j => if j < n then v else g j
theorem setA_id (a : aS) (o k : Nat) : setA a o k (a o k) = a := by
  funext o' k'
  unfold setA
  split
  · next h => rw [h.1, h.2]
  · rfl
theorem setA_ss (a : aS) (o k : Nat) (g g' : Nat → Int) : setA (setA a o k g) o k g' = setA a o k g' := by
  funext o' k'
  unfold setA
  split <;> rfl
theorem fill_step (g : Nat → Int) (i n : Nat) (v : Int) : va_up (fillA g i v) i v = fillA g (i + 1) v := by
  funext j
  unfold va_up fillA
  by_cases h : j = i
  · rw [if_pos h, if_pos (by omega)]
  · by_cases h2 : j < i
    · rw [if_neg h, if_pos h2, if_pos (by omega)]
    · rw [if_neg h, if_neg h2, if_neg (by omega)]
abbrev rmJ_fill : Room := { frames := 0, cells := 0, slots := 0, locals := 0 }
set_option maxHeartbeats 4000000 in
set_option maxRecDepth 100000 in
theorem m_fill {l : Launch} {D : va_G} {cl : List vw_C} {tys : List (ClassId × FieldType)} {wf : fS → aS → va_W} {f : fS} {a : aS} {v : Int} {W : (Nat → Int) → va_W} {g : Nat → Int} {b : Nat} {cA : ClassId} {n q0 t0 : Nat} (hget : ∀ g, (W g)[q0]? = some (b, .inl (cA, n, .inl (fun j => iI (g j))))) (hset : ∀ g g', (W g).set q0 (b, .inl (cA, n, .inl (fun j => iI (g' j)))) = W g') (ht : tys[t0]? = some (cA, .int)) (hn : n ≤ 100000) (hfin : W (fillA g n v) = wf f a) : xCV l yJ_fill (Cond.code yJ_fill cJ_fill 4 none :: xG) rmJ_fill D cl tys (W g) [.ref b, .int (iI v)] wf (fun f' a' => f' = f ∧ a' = a) := by
  refine x_metV (cc := cJ_fill) (nL := 4) (by decide) rfl (Nat.le_of_ble_eq_true rfl) ?_
  intro p e s m below meth c A hO
  obtain ⟨hx, hb, hml, hown, hts, hr, hlk, hK, hN, hA⟩ := hO
  have hnn : ir (n : Int) := ⟨by omega, by omega⟩
  have loop : ∀ (k i : Nat), i + k = n → xV p l e rmJ_fill s m ([.ref b, .int (iI v)] : List Value).toArray below meth c s.heap A 0 0 (xQV below D cl tys wf (fun f' a' => f' = f ∧ a' = a) A ([.ref b, .int (iI v)] : List Value).toArray s) D cl 4 (W (fillA g i v)) [(0, .ref b), (1, .int (iI v)), (2, .int (iI (i : Int))), (3, .int (iI (n : Int)))] 5 [] := by
    intro k
    induction k with
    | zero =>
      intro i hi
      have e : i = n := by omega
      subst e
      refine x_iload_n hx hb dJ_fill_5 rfl 2 rfl ?_
      refine x_iload_n hx hb dJ_fill_6 rfl 3 rfl ?_
      refine x_icmp_ge hx hb (tgt := 20) hnn hnn dJ_fill_7 (by decide) (fun _ => ?_) (fun h => absurd (Int.le_refl _) h)
      rw [hfin]
      exact x_vret hx hb hr hlk hK dJ_fill_20 ⟨rfl, rfl⟩
    | succ k ih =>
      intro i hi
      have hii : ir (i : Int) := ⟨by omega, by omega⟩
      refine x_iload_n hx hb dJ_fill_5 rfl 2 rfl ?_
      refine x_iload_n hx hb dJ_fill_6 rfl 3 rfl ?_
      refine x_icmp_ge hx hb (tgt := 20) hii hnn dJ_fill_7 (by decide) (fun h => absurd h (by omega)) (fun _ => ?_)
      refine x_aload_n hx hb dJ_fill_10 rfl 0 rfl ?_
      refine x_iload_n hx hb dJ_fill_11 rfl 2 rfl ?_
      refine x_iload_n hx hb dJ_fill_12 rfl 1 rfl ?_
      refine x_iast hx hb hK q0 t0 (hget _) ht (i := (i : Int)) (by omega) (by omega) (by omega) dJ_fill_13 (hset _ _) ?_
      refine x_iinc hx hb dJ_fill_14 2 rfl (by decide) (lv' := [(2, .int (iI ((i : Int) + 1))), (0, .ref b), (1, .int (iI v)), (3, .int (iI (n : Int)))]) rfl ?_
      refine x_goto hx hb (tgt := 5) dJ_fill_17 (by decide) ?_
      refine x_sub [1, 2, 0, 3] rfl ?_
      have h := ih (i + 1) (by omega)
      rw [← fill_step g i n v] at h
      exact h
  refine x_iconst hx hb dJ_fill_0 ?_
  refine x_istore_n hx hb dJ_fill_1 rfl (by decide) (lv' := [(2, .int (iI 0)), (0, .ref b), (1, .int (iI v))]) rfl ?_
  refine x_aload_n hx hb dJ_fill_2 rfl 1 rfl ?_
  refine x_alen hx hb hK q0 t0 (hget _) ht dJ_fill_3 ?_
  refine x_istore_n hx hb dJ_fill_4 rfl (by decide) (lv' := [(3, .int (iI (n : Int))), (2, .int (iI 0)), (0, .ref b), (1, .int (iI v))]) rfl ?_
  refine x_sub [2, 3, 1, 0] rfl ?_
  have h := loop n 0 (by omega)
  have e0 : fillA g 0 v = g := by
    funext j
    simp [fillA]
  rw [e0] at h
  exact h
theorem wl7D {l : Launch} {D : va_G} (ad : Nat → Nat → Nat) (cA : Nat → Nat → ClassId) (f : fS) (a : aS) (v : Int) (g : Nat → Int) (hg : a 2 7 = g) : xCV l yJ_fill (Cond.code yJ_fill cJ_fill 4 none :: xG) rmJ_fill D vwCl (taC cA) (CW ad cA f a) [.ref (ad 2 8), .int (iI v)] (CW ad cA) (fun f' a' => f' = f ∧ a' = setA a 2 7 (fillA g 384 v)) := by
  have h := m_fill (l := l) (D := D) (cl := vwCl) (tys := taC cA) (W := fun g => CW ad cA f (setA a 2 7 g)) (g := g) (v := v) (wf := CW ad cA) (f := f) (a := setA a 2 7 (fillA g 384 v)) (n := 384) (fun g => by
    have q := wa7D ad cA f (setA a 2 7 g)
    rw [setA_s] at q
    exact q) (fun g g' => by
    have q := ws7D ad cA f (setA a 2 7 g) g'
    rw [setA_ss] at q
    exact q) (wt7D cA) (by decide) rfl
  have e : setA a 2 7 g = a := by rw [← hg, setA_id]
  simp only [e] at h
  exact h
theorem wl10D {l : Launch} {D : va_G} (ad : Nat → Nat → Nat) (cA : Nat → Nat → ClassId) (f : fS) (a : aS) (v : Int) (g : Nat → Int) (hg : a 2 10 = g) : xCV l yJ_fill (Cond.code yJ_fill cJ_fill 4 none :: xG) rmJ_fill D vwCl (taC cA) (CW ad cA f a) [.ref (ad 2 11), .int (iI v)] (CW ad cA) (fun f' a' => f' = f ∧ a' = setA a 2 10 (fillA g 64 v)) := by
  have h := m_fill (l := l) (D := D) (cl := vwCl) (tys := taC cA) (W := fun g => CW ad cA f (setA a 2 10 g)) (g := g) (v := v) (wf := CW ad cA) (f := f) (a := setA a 2 10 (fillA g 64 v)) (n := 64) (fun g => by
    have q := wa10D ad cA f (setA a 2 10 g)
    rw [setA_s] at q
    exact q) (fun g g' => by
    have q := ws10D ad cA f (setA a 2 10 g) g'
    rw [setA_ss] at q
    exact q) (wt10D cA) (by decide) rfl
  have e : setA a 2 10 g = a := by rw [← hg, setA_id]
  simp only [e] at h
  exact h
theorem wl3G {l : Launch} {D : va_G} (ad : Nat → Nat → Nat) (cA : Nat → Nat → ClassId) (f : fS) (a : aS) (v : Int) (g : Nat → Int) (hg : a o 3 = g) (o : Nat) (h : 3 ≤ o ∧ o < 7) : xCV l yJ_fill (Cond.code yJ_fill cJ_fill 4 none :: xG) rmJ_fill D vwCl (taC cA) (CW ad cA f a) [.ref (ad o 4), .int (iI v)] (CW ad cA) (fun f' a' => f' = f ∧ a' = setA a o 3 (fillA g 384 v)) := by
  have h := m_fill (l := l) (D := D) (cl := vwCl) (tys := taC cA) (W := fun g => CW ad cA f (setA a o 3 g)) (g := g) (v := v) (wf := CW ad cA) (f := f) (a := setA a o 3 (fillA g 384 v)) (n := 384) (fun g => by
    have q := wa3G ad cA f (setA a o 3 g) o h
    rw [setA_s] at q
    exact q) (fun g g' => by
    have q := ws3G ad cA f (setA a o 3 g) g' o h
    rw [setA_ss] at q
    exact q) (wt3G cA o h) (by decide) rfl
  have e : setA a o 3 g = a := by rw [← hg, setA_id]
  simp only [e] at h
  exact h
theorem wl4G {l : Launch} {D : va_G} (ad : Nat → Nat → Nat) (cA : Nat → Nat → ClassId) (f : fS) (a : aS) (v : Int) (g : Nat → Int) (hg : a o 4 = g) (o : Nat) (h : 3 ≤ o ∧ o < 7) : xCV l yJ_fill (Cond.code yJ_fill cJ_fill 4 none :: xG) rmJ_fill D vwCl (taC cA) (CW ad cA f a) [.ref (ad o 5), .int (iI v)] (CW ad cA) (fun f' a' => f' = f ∧ a' = setA a o 4 (fillA g 384 v)) := by
  have h := m_fill (l := l) (D := D) (cl := vwCl) (tys := taC cA) (W := fun g => CW ad cA f (setA a o 4 g)) (g := g) (v := v) (wf := CW ad cA) (f := f) (a := setA a o 4 (fillA g 384 v)) (n := 384) (fun g => by
    have q := wa4G ad cA f (setA a o 4 g) o h
    rw [setA_s] at q
    exact q) (fun g g' => by
    have q := ws4G ad cA f (setA a o 4 g) g' o h
    rw [setA_ss] at q
    exact q) (wt4G cA o h) (by decide) rfl
  have e : setA a o 4 g = a := by rw [← hg, setA_id]
  simp only [e] at h
  exact h
end
