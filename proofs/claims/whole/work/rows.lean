section
-- ===== PART A: goes FIRST, ahead of the names: the tables' words, and 'selects' of the private methods out of them =====
/-- a private method of a class that the tables say can be made, by its rows of tables_1 -/
def lw_okq (q : MethodName × Nat) : Prop := (q.1.cls ≠ "java/lang/invoke/MethodHandle" ∧ q.1.cls ≠ "java/lang/invoke/VarHandle") ∧ Cond.instantiable q.1.cls q.2 ∈ tables_1 ∧ Cond.privateMethod q.1 ∈ tables_1 ∧ Cond.instanceMethod q.1 ∈ tables_1
theorem lw_p0 : lw_okq (⟨"ShortTrees$Text", "takeRow", "(ILShortTrees$Table;)Z"⟩, 3) := ⟨⟨by decide +kernel, by decide +kernel⟩, List.mem_of_getElem? (i := 27) (by decide +kernel), List.mem_of_getElem? (i := 177) (by decide +kernel), List.mem_of_getElem? (i := 178) (by decide +kernel)⟩
theorem lw_p1 : lw_okq (⟨"ShortTrees$Text", "take", "(C)Z"⟩, 3) := ⟨⟨by decide +kernel, by decide +kernel⟩, List.mem_of_getElem? (i := 27) (by decide +kernel), List.mem_of_getElem? (i := 181) (by decide +kernel), List.mem_of_getElem? (i := 182) (by decide +kernel)⟩
theorem lw_p2 : lw_okq (⟨"ShortTrees$Text", "isHere", "(C)Z"⟩, 3) := ⟨⟨by decide +kernel, by decide +kernel⟩, List.mem_of_getElem? (i := 27) (by decide +kernel), List.mem_of_getElem? (i := 185) (by decide +kernel), List.mem_of_getElem? (i := 186) (by decide +kernel)⟩
theorem lw_p3 : lw_okq (⟨"ShortTrees$Text", "takeEntry", "()I"⟩, 3) := ⟨⟨by decide +kernel, by decide +kernel⟩, List.mem_of_getElem? (i := 27) (by decide +kernel), List.mem_of_getElem? (i := 189) (by decide +kernel), List.mem_of_getElem? (i := 190) (by decide +kernel)⟩
theorem lw_p4 : lw_okq (⟨"ShortTrees$Text", "takeRisingStates", "(I)I"⟩, 3) := ⟨⟨by decide +kernel, by decide +kernel⟩, List.mem_of_getElem? (i := 27) (by decide +kernel), List.mem_of_getElem? (i := 193) (by decide +kernel), List.mem_of_getElem? (i := 194) (by decide +kernel)⟩
theorem lw_p5 : lw_okq (⟨"java/lang/Throwable", "fillInStackTrace", "(I)Ljava/lang/Throwable;"⟩, 6) := ⟨⟨by decide +kernel, by decide +kernel⟩, List.mem_of_getElem? (i := 283) (by decide +kernel), List.mem_of_getElem? (i := 281) (by decide +kernel), List.mem_of_getElem? (i := 282) (by decide +kernel)⟩
theorem lw_p6 : lw_okq (⟨"ShortTrees", "requireCharacter", "(I)V"⟩, 7) := ⟨⟨by decide +kernel, by decide +kernel⟩, List.mem_of_getElem? (i := 19) (by decide +kernel), List.mem_of_getElem? (i := 361) (by decide +kernel), List.mem_of_getElem? (i := 362) (by decide +kernel)⟩
theorem lw_p7 : lw_okq (⟨"ShortTrees", "requireTree", "(I)V"⟩, 7) := ⟨⟨by decide +kernel, by decide +kernel⟩, List.mem_of_getElem? (i := 19) (by decide +kernel), List.mem_of_getElem? (i := 389) (by decide +kernel), List.mem_of_getElem? (i := 390) (by decide +kernel)⟩
theorem lw_p8 : lw_okq (⟨"ShortTrees$Tree", "choose", "(II)V"⟩, 7) := ⟨⟨by decide +kernel, by decide +kernel⟩, List.mem_of_getElem? (i := 44) (by decide +kernel), List.mem_of_getElem? (i := 398) (by decide +kernel), List.mem_of_getElem? (i := 399) (by decide +kernel)⟩
theorem lw_p9 : lw_okq (⟨"ShortTrees$Tree", "chosenNode", "(I)I"⟩, 7) := ⟨⟨by decide +kernel, by decide +kernel⟩, List.mem_of_getElem? (i := 44) (by decide +kernel), List.mem_of_getElem? (i := 402) (by decide +kernel), List.mem_of_getElem? (i := 403) (by decide +kernel)⟩
theorem lw_p10 : lw_okq (⟨"ShortTrees$Tree", "insert", "(II)V"⟩, 7) := ⟨⟨by decide +kernel, by decide +kernel⟩, List.mem_of_getElem? (i := 44) (by decide +kernel), List.mem_of_getElem? (i := 406) (by decide +kernel), List.mem_of_getElem? (i := 407) (by decide +kernel)⟩
theorem lw_p11 : lw_okq (⟨"ShortTrees$Tree", "makeRoom", "(III)V"⟩, 7) := ⟨⟨by decide +kernel, by decide +kernel⟩, List.mem_of_getElem? (i := 44) (by decide +kernel), List.mem_of_getElem? (i := 410) (by decide +kernel), List.mem_of_getElem? (i := 411) (by decide +kernel)⟩
theorem lw_p12 : lw_okq (⟨"ShortTrees$Tree", "tornAt", "(II)J"⟩, 7) := ⟨⟨by decide +kernel, by decide +kernel⟩, List.mem_of_getElem? (i := 44) (by decide +kernel), List.mem_of_getElem? (i := 421) (by decide +kernel), List.mem_of_getElem? (i := 422) (by decide +kernel)⟩
theorem lw_p13 : lw_okq (⟨"ShortTrees$Tree", "joined", "(IIJ)J"⟩, 7) := ⟨⟨by decide +kernel, by decide +kernel⟩, List.mem_of_getElem? (i := 44) (by decide +kernel), List.mem_of_getElem? (i := 427) (by decide +kernel), List.mem_of_getElem? (i := 428) (by decide +kernel)⟩
theorem lw_p14 : lw_okq (⟨"ShortTrees$Finds", "tallySplits", "(ILShortTrees$Tree;)V"⟩, 3) := ⟨⟨by decide +kernel, by decide +kernel⟩, List.mem_of_getElem? (i := 74) (by decide +kernel), List.mem_of_getElem? (i := 464) (by decide +kernel), List.mem_of_getElem? (i := 465) (by decide +kernel)⟩
theorem lw_p15 : lw_okq (⟨"ShortTrees", "requireFinds", "()V"⟩, 7) := ⟨⟨by decide +kernel, by decide +kernel⟩, List.mem_of_getElem? (i := 19) (by decide +kernel), List.mem_of_getElem? (i := 506) (by decide +kernel), List.mem_of_getElem? (i := 507) (by decide +kernel)⟩
def lw_privs_1 : List (MethodName × Nat) := [(⟨"ShortTrees$Text", "takeRow", "(ILShortTrees$Table;)Z"⟩, 3), (⟨"ShortTrees$Text", "take", "(C)Z"⟩, 3), (⟨"ShortTrees$Text", "isHere", "(C)Z"⟩, 3), (⟨"ShortTrees$Text", "takeEntry", "()I"⟩, 3), (⟨"ShortTrees$Text", "takeRisingStates", "(I)I"⟩, 3), (⟨"java/lang/Throwable", "fillInStackTrace", "(I)Ljava/lang/Throwable;"⟩, 6), (⟨"ShortTrees", "requireCharacter", "(I)V"⟩, 7), (⟨"ShortTrees", "requireTree", "(I)V"⟩, 7), (⟨"ShortTrees$Tree", "choose", "(II)V"⟩, 7), (⟨"ShortTrees$Tree", "chosenNode", "(I)I"⟩, 7), (⟨"ShortTrees$Tree", "insert", "(II)V"⟩, 7), (⟨"ShortTrees$Tree", "makeRoom", "(III)V"⟩, 7), (⟨"ShortTrees$Tree", "tornAt", "(II)J"⟩, 7), (⟨"ShortTrees$Tree", "joined", "(IIJ)J"⟩, 7), (⟨"ShortTrees$Finds", "tallySplits", "(ILShortTrees$Tree;)V"⟩, 3), (⟨"ShortTrees", "requireFinds", "()V"⟩, 7)]
theorem lw_r1 : ∀ q ∈ lw_privs_1, lw_okq q := List.forall_mem_cons.mpr ⟨lw_p0, List.forall_mem_cons.mpr ⟨lw_p1, List.forall_mem_cons.mpr ⟨lw_p2, List.forall_mem_cons.mpr ⟨lw_p3, List.forall_mem_cons.mpr ⟨lw_p4, List.forall_mem_cons.mpr ⟨lw_p5, List.forall_mem_cons.mpr ⟨lw_p6, List.forall_mem_cons.mpr ⟨lw_p7, List.forall_mem_cons.mpr ⟨lw_p8, List.forall_mem_cons.mpr ⟨lw_p9, List.forall_mem_cons.mpr ⟨lw_p10, List.forall_mem_cons.mpr ⟨lw_p11, List.forall_mem_cons.mpr ⟨lw_p12, List.forall_mem_cons.mpr ⟨lw_p13, List.forall_mem_cons.mpr ⟨lw_p14, List.forall_mem_cons.mpr ⟨lw_p15, fun _ h => absurd h List.not_mem_nil⟩⟩⟩⟩⟩⟩⟩⟩⟩⟩⟩⟩⟩⟩⟩⟩
theorem lw_p16 : lw_okq (⟨"ShortTrees$Table", "fewestStates", "(I)I"⟩, 4) := ⟨⟨by decide +kernel, by decide +kernel⟩, List.mem_of_getElem? (i := 111) (by decide +kernel), List.mem_of_getElem? (i := 538) (by decide +kernel), List.mem_of_getElem? (i := 539) (by decide +kernel)⟩
theorem lw_p17 : lw_okq (⟨"ShortTrees$Table", "meetsEveryKind", "(II)Z"⟩, 4) := ⟨⟨by decide +kernel, by decide +kernel⟩, List.mem_of_getElem? (i := 111) (by decide +kernel), List.mem_of_getElem? (i := 542) (by decide +kernel), List.mem_of_getElem? (i := 543) (by decide +kernel)⟩
theorem lw_p18 : lw_okq (⟨"ShortTrees$Table", "mostAlike", "(I)I"⟩, 4) := ⟨⟨by decide +kernel, by decide +kernel⟩, List.mem_of_getElem? (i := 111) (by decide +kernel), List.mem_of_getElem? (i := 567) (by decide +kernel), List.mem_of_getElem? (i := 568) (by decide +kernel)⟩
theorem lw_p19 : lw_okq (⟨"ShortTrees$Page", "put", "(C)V"⟩, 4) := ⟨⟨by decide +kernel, by decide +kernel⟩, List.mem_of_getElem? (i := 92) (by decide +kernel), List.mem_of_getElem? (i := 595) (by decide +kernel), List.mem_of_getElem? (i := 596) (by decide +kernel)⟩
theorem lw_p20 : lw_okq (⟨"ShortTrees$Page", "putSideBySide", "(II)V"⟩, 4) := ⟨⟨by decide +kernel, by decide +kernel⟩, List.mem_of_getElem? (i := 92) (by decide +kernel), List.mem_of_getElem? (i := 599) (by decide +kernel), List.mem_of_getElem? (i := 600) (by decide +kernel)⟩
theorem lw_p21 : lw_okq (⟨"ShortTrees$Page", "widestGroup", "(II)I"⟩, 4) := ⟨⟨by decide +kernel, by decide +kernel⟩, List.mem_of_getElem? (i := 92) (by decide +kernel), List.mem_of_getElem? (i := 603) (by decide +kernel), List.mem_of_getElem? (i := 604) (by decide +kernel)⟩
theorem lw_p22 : lw_okq (⟨"ShortTreesModel", "row", "()V"⟩, 27) := ⟨⟨by decide +kernel, by decide +kernel⟩, List.mem_of_getElem? (i := 617) (by decide +kernel), List.mem_of_getElem? (i := 718) (by decide +kernel), List.mem_of_getElem? (i := 719) (by decide +kernel)⟩
theorem lw_p23 : lw_okq (⟨"ShortTreesModel", "wrong", "()V"⟩, 27) := ⟨⟨by decide +kernel, by decide +kernel⟩, List.mem_of_getElem? (i := 617) (by decide +kernel), List.mem_of_getElem? (i := 722) (by decide +kernel), List.mem_of_getElem? (i := 723) (by decide +kernel)⟩
theorem lw_p24 : lw_okq (⟨"ShortTreesModel", "must", "(I)V"⟩, 27) := ⟨⟨by decide +kernel, by decide +kernel⟩, List.mem_of_getElem? (i := 617) (by decide +kernel), List.mem_of_getElem? (i := 726) (by decide +kernel), List.mem_of_getElem? (i := 727) (by decide +kernel)⟩
theorem lw_p25 : lw_okq (⟨"ShortTreesModel", "here", "()I"⟩, 27) := ⟨⟨by decide +kernel, by decide +kernel⟩, List.mem_of_getElem? (i := 617) (by decide +kernel), List.mem_of_getElem? (i := 730) (by decide +kernel), List.mem_of_getElem? (i := 731) (by decide +kernel)⟩
theorem lw_p26 : lw_okq (⟨"ShortTreesModel", "entry", "()I"⟩, 27) := ⟨⟨by decide +kernel, by decide +kernel⟩, List.mem_of_getElem? (i := 617) (by decide +kernel), List.mem_of_getElem? (i := 734) (by decide +kernel), List.mem_of_getElem? (i := 735) (by decide +kernel)⟩
theorem lw_p27 : lw_okq (⟨"ShortTreesModel", "isCharacter", "(I)Z"⟩, 27) := ⟨⟨by decide +kernel, by decide +kernel⟩, List.mem_of_getElem? (i := 617) (by decide +kernel), List.mem_of_getElem? (i := 745) (by decide +kernel), List.mem_of_getElem? (i := 746) (by decide +kernel)⟩
theorem lw_p28 : lw_okq (⟨"ShortTreesModel", "many", "()I"⟩, 27) := ⟨⟨by decide +kernel, by decide +kernel⟩, List.mem_of_getElem? (i := 617) (by decide +kernel), List.mem_of_getElem? (i := 757) (by decide +kernel), List.mem_of_getElem? (i := 758) (by decide +kernel)⟩
theorem lw_p29 : lw_okq (⟨"ShortTreesModel", "isTree", "(I)Z"⟩, 27) := ⟨⟨by decide +kernel, by decide +kernel⟩, List.mem_of_getElem? (i := 617) (by decide +kernel), List.mem_of_getElem? (i := 765) (by decide +kernel), List.mem_of_getElem? (i := 766) (by decide +kernel)⟩
theorem lw_p30 : lw_okq (⟨"ShortTreesModel", "grow", "(I)V"⟩, 27) := ⟨⟨by decide +kernel, by decide +kernel⟩, List.mem_of_getElem? (i := 617) (by decide +kernel), List.mem_of_getElem? (i := 769) (by decide +kernel), List.mem_of_getElem? (i := 770) (by decide +kernel)⟩
theorem lw_p31 : lw_okq (⟨"ShortTreesModel", "choice", "(II)I"⟩, 27) := ⟨⟨by decide +kernel, by decide +kernel⟩, List.mem_of_getElem? (i := 617) (by decide +kernel), List.mem_of_getElem? (i := 773) (by decide +kernel), List.mem_of_getElem? (i := 774) (by decide +kernel)⟩
def lw_privs_2 : List (MethodName × Nat) := [(⟨"ShortTrees$Table", "fewestStates", "(I)I"⟩, 4), (⟨"ShortTrees$Table", "meetsEveryKind", "(II)Z"⟩, 4), (⟨"ShortTrees$Table", "mostAlike", "(I)I"⟩, 4), (⟨"ShortTrees$Page", "put", "(C)V"⟩, 4), (⟨"ShortTrees$Page", "putSideBySide", "(II)V"⟩, 4), (⟨"ShortTrees$Page", "widestGroup", "(II)I"⟩, 4), (⟨"ShortTreesModel", "row", "()V"⟩, 27), (⟨"ShortTreesModel", "wrong", "()V"⟩, 27), (⟨"ShortTreesModel", "must", "(I)V"⟩, 27), (⟨"ShortTreesModel", "here", "()I"⟩, 27), (⟨"ShortTreesModel", "entry", "()I"⟩, 27), (⟨"ShortTreesModel", "isCharacter", "(I)Z"⟩, 27), (⟨"ShortTreesModel", "many", "()I"⟩, 27), (⟨"ShortTreesModel", "isTree", "(I)Z"⟩, 27), (⟨"ShortTreesModel", "grow", "(I)V"⟩, 27), (⟨"ShortTreesModel", "choice", "(II)I"⟩, 27)]
theorem lw_r2 : ∀ q ∈ lw_privs_2, lw_okq q := List.forall_mem_cons.mpr ⟨lw_p16, List.forall_mem_cons.mpr ⟨lw_p17, List.forall_mem_cons.mpr ⟨lw_p18, List.forall_mem_cons.mpr ⟨lw_p19, List.forall_mem_cons.mpr ⟨lw_p20, List.forall_mem_cons.mpr ⟨lw_p21, List.forall_mem_cons.mpr ⟨lw_p22, List.forall_mem_cons.mpr ⟨lw_p23, List.forall_mem_cons.mpr ⟨lw_p24, List.forall_mem_cons.mpr ⟨lw_p25, List.forall_mem_cons.mpr ⟨lw_p26, List.forall_mem_cons.mpr ⟨lw_p27, List.forall_mem_cons.mpr ⟨lw_p28, List.forall_mem_cons.mpr ⟨lw_p29, List.forall_mem_cons.mpr ⟨lw_p30, List.forall_mem_cons.mpr ⟨lw_p31, fun _ h => absurd h List.not_mem_nil⟩⟩⟩⟩⟩⟩⟩⟩⟩⟩⟩⟩⟩⟩⟩⟩
theorem lw_p32 : lw_okq (⟨"ShortTreesModel", "replace", "(II)V"⟩, 27) := ⟨⟨by decide +kernel, by decide +kernel⟩, List.mem_of_getElem? (i := 617) (by decide +kernel), List.mem_of_getElem? (i := 777) (by decide +kernel), List.mem_of_getElem? (i := 778) (by decide +kernel)⟩
theorem lw_p33 : lw_okq (⟨"ShortTreesModel", "gather", "()V"⟩, 27) := ⟨⟨by decide +kernel, by decide +kernel⟩, List.mem_of_getElem? (i := 617) (by decide +kernel), List.mem_of_getElem? (i := 781) (by decide +kernel), List.mem_of_getElem? (i := 782) (by decide +kernel)⟩
theorem lw_p34 : lw_okq (⟨"ShortTreesModel", "needed", "(I)I"⟩, 27) := ⟨⟨by decide +kernel, by decide +kernel⟩, List.mem_of_getElem? (i := 617) (by decide +kernel), List.mem_of_getElem? (i := 785) (by decide +kernel), List.mem_of_getElem? (i := 786) (by decide +kernel)⟩
theorem lw_p35 : lw_okq (⟨"ShortTreesModel", "from", "(II)I"⟩, 27) := ⟨⟨by decide +kernel, by decide +kernel⟩, List.mem_of_getElem? (i := 617) (by decide +kernel), List.mem_of_getElem? (i := 789) (by decide +kernel), List.mem_of_getElem? (i := 790) (by decide +kernel)⟩
theorem lw_p36 : lw_okq (⟨"ShortTreesModel", "lengthOf", "(I)I"⟩, 27) := ⟨⟨by decide +kernel, by decide +kernel⟩, List.mem_of_getElem? (i := 617) (by decide +kernel), List.mem_of_getElem? (i := 800) (by decide +kernel), List.mem_of_getElem? (i := 801) (by decide +kernel)⟩
theorem lw_p37 : lw_okq (⟨"ShortTreesModel", "hasSplit", "(I)Z"⟩, 27) := ⟨⟨by decide +kernel, by decide +kernel⟩, List.mem_of_getElem? (i := 617) (by decide +kernel), List.mem_of_getElem? (i := 820) (by decide +kernel), List.mem_of_getElem? (i := 821) (by decide +kernel)⟩
theorem lw_p38 : lw_okq (⟨"ShortTreesModel", "sharing", "(I)I"⟩, 27) := ⟨⟨by decide +kernel, by decide +kernel⟩, List.mem_of_getElem? (i := 617) (by decide +kernel), List.mem_of_getElem? (i := 828) (by decide +kernel), List.mem_of_getElem? (i := 829) (by decide +kernel)⟩
theorem lw_p39 : lw_okq (⟨"ShortTreesModel", "sum", "(Z)I"⟩, 27) := ⟨⟨by decide +kernel, by decide +kernel⟩, List.mem_of_getElem? (i := 617) (by decide +kernel), List.mem_of_getElem? (i := 840) (by decide +kernel), List.mem_of_getElem? (i := 841) (by decide +kernel)⟩
theorem lw_p40 : lw_okq (⟨"ShortTreesModel", "mostOf", "(I)I"⟩, 27) := ⟨⟨by decide +kernel, by decide +kernel⟩, List.mem_of_getElem? (i := 617) (by decide +kernel), List.mem_of_getElem? (i := 844) (by decide +kernel), List.mem_of_getElem? (i := 845) (by decide +kernel)⟩
theorem lw_p41 : lw_okq (⟨"ShortTreesModel", "leastOf", "(I)I"⟩, 27) := ⟨⟨by decide +kernel, by decide +kernel⟩, List.mem_of_getElem? (i := 617) (by decide +kernel), List.mem_of_getElem? (i := 848) (by decide +kernel), List.mem_of_getElem? (i := 849) (by decide +kernel)⟩
theorem lw_p42 : lw_okq (⟨"ShortTreesModel", "writeSplits", "()I"⟩, 27) := ⟨⟨by decide +kernel, by decide +kernel⟩, List.mem_of_getElem? (i := 617) (by decide +kernel), List.mem_of_getElem? (i := 863) (by decide +kernel), List.mem_of_getElem? (i := 864) (by decide +kernel)⟩
theorem lw_p43 : lw_okq (⟨"ShortTreesModel", "put", "(I)V"⟩, 27) := ⟨⟨by decide +kernel, by decide +kernel⟩, List.mem_of_getElem? (i := 617) (by decide +kernel), List.mem_of_getElem? (i := 867) (by decide +kernel), List.mem_of_getElem? (i := 868) (by decide +kernel)⟩
theorem lw_p44 : lw_okq (⟨"ShortTreesModel", "spread", "(II)I"⟩, 27) := ⟨⟨by decide +kernel, by decide +kernel⟩, List.mem_of_getElem? (i := 617) (by decide +kernel), List.mem_of_getElem? (i := 871) (by decide +kernel), List.mem_of_getElem? (i := 872) (by decide +kernel)⟩
theorem lw_p45 : lw_okq (⟨"ShortTreesModel", "part", "(II)I"⟩, 27) := ⟨⟨by decide +kernel, by decide +kernel⟩, List.mem_of_getElem? (i := 617) (by decide +kernel), List.mem_of_getElem? (i := 875) (by decide +kernel), List.mem_of_getElem? (i := 876) (by decide +kernel)⟩
def lw_privs_3 : List (MethodName × Nat) := [(⟨"ShortTreesModel", "replace", "(II)V"⟩, 27), (⟨"ShortTreesModel", "gather", "()V"⟩, 27), (⟨"ShortTreesModel", "needed", "(I)I"⟩, 27), (⟨"ShortTreesModel", "from", "(II)I"⟩, 27), (⟨"ShortTreesModel", "lengthOf", "(I)I"⟩, 27), (⟨"ShortTreesModel", "hasSplit", "(I)Z"⟩, 27), (⟨"ShortTreesModel", "sharing", "(I)I"⟩, 27), (⟨"ShortTreesModel", "sum", "(Z)I"⟩, 27), (⟨"ShortTreesModel", "mostOf", "(I)I"⟩, 27), (⟨"ShortTreesModel", "leastOf", "(I)I"⟩, 27), (⟨"ShortTreesModel", "writeSplits", "()I"⟩, 27), (⟨"ShortTreesModel", "put", "(I)V"⟩, 27), (⟨"ShortTreesModel", "spread", "(II)I"⟩, 27), (⟨"ShortTreesModel", "part", "(II)I"⟩, 27)]
theorem lw_r3 : ∀ q ∈ lw_privs_3, lw_okq q := List.forall_mem_cons.mpr ⟨lw_p32, List.forall_mem_cons.mpr ⟨lw_p33, List.forall_mem_cons.mpr ⟨lw_p34, List.forall_mem_cons.mpr ⟨lw_p35, List.forall_mem_cons.mpr ⟨lw_p36, List.forall_mem_cons.mpr ⟨lw_p37, List.forall_mem_cons.mpr ⟨lw_p38, List.forall_mem_cons.mpr ⟨lw_p39, List.forall_mem_cons.mpr ⟨lw_p40, List.forall_mem_cons.mpr ⟨lw_p41, List.forall_mem_cons.mpr ⟨lw_p42, List.forall_mem_cons.mpr ⟨lw_p43, List.forall_mem_cons.mpr ⟨lw_p44, List.forall_mem_cons.mpr ⟨lw_p45, fun _ h => absurd h List.not_mem_nil⟩⟩⟩⟩⟩⟩⟩⟩⟩⟩⟩⟩⟩⟩
def lw_privs : List (MethodName × Nat) := lw_privs_1 ++ (lw_privs_2 ++ (lw_privs_3))
def lw_tbl : List Cond := k2_sels lw_privs ++ tables_1
theorem lw_privs_ok : ∀ q ∈ lw_privs, lw_okq q := by
  show ∀ q ∈ lw_privs_1 ++ (lw_privs_2 ++ (lw_privs_3)), lw_okq q
  exact List.forall_mem_append.mpr ⟨lw_r1, List.forall_mem_append.mpr ⟨lw_r2, lw_r3⟩⟩
end
section
/-! ===== BEGIN printed: names, fields, word lists, decode rows ===== -/
def RX0 : String := "ShortTrees$Finds"
def TX0 : u_T := fun k => match k with
  | 0 => ("ShortTrees$Finds", "numbers", "[I", true)
  | 1 => ("ShortTrees$Finds", "tally", "[I", true)
  | _ => ("ShortTrees$Finds", "count", "I", false)
def tyX0 : Nat → FieldType := fun k => match k with
  | 0 => .array .int
  | 1 => .array .int
  | _ => .int
abbrev wsX00 : List Cond := u_ws RX0 TX0 3
theorem nmX0 : ∀ a, a < 3 → ∀ b, b < 3 → a ≠ b → (TX0 a).2.1 ≠ (TX0 b).2.1 := by decide +kernel
theorem tyX0_ok : ∀ k, k < 3 → parseFieldDescriptor (TX0 k).2.2.1 = some (tyX0 k) := by decide +kernel
abbrev cX0_init : ByteArray := prog_2_method_1_code
def yX0_init : MethodName := ⟨RX0, "<init>", "()V"⟩
abbrev cX0_forget : ByteArray := prog_2_method_2_code
def yX0_forget : MethodName := ⟨RX0, "forget", "()V"⟩
abbrev cX0_gather : ByteArray := prog_2_method_3_code
def yX0_gather : MethodName := ⟨RX0, "gather", "(LShortTrees$Table;LShortTrees$Tree;)I"⟩
abbrev cX0_tallySplits : ByteArray := prog_2_method_4_code
def yX0_tallySplits : MethodName := ⟨RX0, "tallySplits", "(ILShortTrees$Tree;)V"⟩
abbrev cX0_shareOf : ByteArray := prog_2_method_5_code
def yX0_shareOf : MethodName := ⟨RX0, "shareOf", "(I)F"⟩
def RX1 : String := "ShortTrees$Page"
def TX1 : u_T := fun k => match k with
  | 0 => ("ShortTrees$Page", "signs", "[C", true)
  | 1 => ("ShortTrees$Page", "groups", "[I", true)
  | 2 => ("ShortTrees$Page", "size", "I", false)
  | _ => ("ShortTrees$Page", "groupCount", "I", false)
def tyX1 : Nat → FieldType := fun k => match k with
  | 0 => .array .char
  | 1 => .array .int
  | 2 => .int
  | _ => .int
abbrev wsX10 : List Cond := u_ws RX1 TX1 4
theorem nmX1 : ∀ a, a < 4 → ∀ b, b < 4 → a ≠ b → (TX1 a).2.1 ≠ (TX1 b).2.1 := by decide +kernel
theorem tyX1_ok : ∀ k, k < 4 → parseFieldDescriptor (TX1 k).2.2.1 = some (tyX1 k) := by decide +kernel
abbrev cX1_init : ByteArray := prog_3_method_1_code
def yX1_init : MethodName := ⟨RX1, "<init>", "()V"⟩
abbrev cX1_forgetGroups : ByteArray := prog_3_method_2_code
def yX1_forgetGroups : MethodName := ⟨RX1, "forgetGroups", "()V"⟩
abbrev cX1_addGroup : ByteArray := prog_3_method_3_code
def yX1_addGroup : MethodName := ⟨RX1, "addGroup", "(I)V"⟩
abbrev cX1_fill : ByteArray := prog_3_method_4_code
def yX1_fill : MethodName := ⟨RX1, "fill", "(I)I"⟩
abbrev cX1_putSideBySide : ByteArray := prog_3_method_5_code
def yX1_putSideBySide : MethodName := ⟨RX1, "putSideBySide", "(II)V"⟩
abbrev cX1_widestGroup : ByteArray := prog_3_method_6_code
def yX1_widestGroup : MethodName := ⟨RX1, "widestGroup", "(II)I"⟩
abbrev cX1_put : ByteArray := prog_3_method_7_code
def yX1_put : MethodName := ⟨RX1, "put", "(C)V"⟩
abbrev cX1_signAt : ByteArray := prog_3_method_8_code
def yX1_signAt : MethodName := ⟨RX1, "signAt", "(I)C"⟩
def RX2 : String := "ShortTrees$Table"
def TX2 : u_T := fun k => match k with
  | 0 => ("ShortTrees$Table", "rows", "[J", true)
  | 1 => ("ShortTrees$Table", "weights", "[I", true)
  | 2 => ("ShortTrees$Table", "kinds", "I", false)
  | _ => ("ShortTrees$Table", "characters", "I", false)
def tyX2 : Nat → FieldType := fun k => match k with
  | 0 => .array .long
  | 1 => .array .int
  | 2 => .int
  | _ => .int
abbrev wsX20 : List Cond := u_ws RX2 TX2 4
theorem nmX2 : ∀ a, a < 4 → ∀ b, b < 4 → a ≠ b → (TX2 a).2.1 ≠ (TX2 b).2.1 := by decide +kernel
theorem tyX2_ok : ∀ k, k < 4 → parseFieldDescriptor (TX2 k).2.2.1 = some (tyX2 k) := by decide +kernel
abbrev cX2_init : ByteArray := prog_4_method_1_code
def yX2_init : MethodName := ⟨RX2, "<init>", "()V"⟩
abbrev cX2_clear : ByteArray := prog_4_method_2_code
def yX2_clear : MethodName := ⟨RX2, "clear", "()V"⟩
abbrev cX2_put : ByteArray := prog_4_method_3_code
def yX2_put : MethodName := ⟨RX2, "put", "(III)V"⟩
abbrev cX2_hasCharacter : ByteArray := prog_4_method_4_code
def yX2_hasCharacter : MethodName := ⟨RX2, "hasCharacter", "(I)Z"⟩
abbrev cX2_setOf : ByteArray := prog_4_method_5_code
def yX2_setOf : MethodName := ⟨RX2, "setOf", "(II)I"⟩
abbrev cX2_bitsOf : ByteArray := prog_4_method_6_code
def yX2_bitsOf : MethodName := ⟨RX2, "bitsOf", "(JI)I"⟩
abbrev cX2_treeCount : ByteArray := prog_4_method_7_code
def yX2_treeCount : MethodName := ⟨RX2, "treeCount", "()I"⟩
abbrev cX2_weighed : ByteArray := prog_4_method_8_code
def yX2_weighed : MethodName := ⟨RX2, "weighed", "(J)I"⟩
abbrev cX2_least : ByteArray := prog_4_method_9_code
def yX2_least : MethodName := ⟨RX2, "least", "()I"⟩
abbrev cX2_most : ByteArray := prog_4_method_10_code
def yX2_most : MethodName := ⟨RX2, "most", "()I"⟩
abbrev cX2_fewestStates : ByteArray := prog_4_method_11_code
def yX2_fewestStates : MethodName := ⟨RX2, "fewestStates", "(I)I"⟩
abbrev cX2_meetsEveryKind : ByteArray := prog_4_method_12_code
def yX2_meetsEveryKind : MethodName := ⟨RX2, "meetsEveryKind", "(II)Z"⟩
abbrev cX2_mostAlike : ByteArray := prog_4_method_13_code
def yX2_mostAlike : MethodName := ⟨RX2, "mostAlike", "(I)I"⟩
def RX3 : String := "ShortTrees$Text"
def TX3 : u_T := fun k => match k with
  | 0 => ("ShortTrees$Text", "typed", "[C", true)
  | 1 => ("ShortTrees$Text", "size", "I", false)
  | _ => ("ShortTrees$Text", "at", "I", false)
def tyX3 : Nat → FieldType := fun k => match k with
  | 0 => .array .char
  | 1 => .int
  | _ => .int
abbrev wsX30 : List Cond := u_ws RX3 TX3 3
theorem nmX3 : ∀ a, a < 3 → ∀ b, b < 3 → a ≠ b → (TX3 a).2.1 ≠ (TX3 b).2.1 := by decide +kernel
theorem tyX3_ok : ∀ k, k < 3 → parseFieldDescriptor (TX3 k).2.2.1 = some (tyX3 k) := by decide +kernel
abbrev cX3_init : ByteArray := prog_5_method_1_code
def yX3_init : MethodName := ⟨RX3, "<init>", "()V"⟩
abbrev cX3_isFull : ByteArray := prog_5_method_2_code
def yX3_isFull : MethodName := ⟨RX3, "isFull", "()Z"⟩
abbrev cX3_add : ByteArray := prog_5_method_3_code
def yX3_add : MethodName := ⟨RX3, "add", "(C)I"⟩
abbrev cX3_empty : ByteArray := prog_5_method_4_code
def yX3_empty : MethodName := ⟨RX3, "empty", "()V"⟩
abbrev cX3_place : ByteArray := prog_5_method_5_code
def yX3_place : MethodName := ⟨RX3, "place", "()I"⟩
abbrev cX3_readInto : ByteArray := prog_5_method_6_code
def yX3_readInto : MethodName := ⟨RX3, "readInto", "(LShortTrees$Table;)Z"⟩
abbrev cX3_takeRow : ByteArray := prog_5_method_7_code
def yX3_takeRow : MethodName := ⟨RX3, "takeRow", "(ILShortTrees$Table;)Z"⟩
abbrev cX3_takeEntry : ByteArray := prog_5_method_8_code
def yX3_takeEntry : MethodName := ⟨RX3, "takeEntry", "()I"⟩
abbrev cX3_takeRisingStates : ByteArray := prog_5_method_9_code
def yX3_takeRisingStates : MethodName := ⟨RX3, "takeRisingStates", "(I)I"⟩
abbrev cX3_take : ByteArray := prog_5_method_10_code
def yX3_take : MethodName := ⟨RX3, "take", "(C)Z"⟩
abbrev cX3_isHere : ByteArray := prog_5_method_11_code
def yX3_isHere : MethodName := ⟨RX3, "isHere", "(C)Z"⟩
def RX4 : String := "ShortTrees$Tree"
def TX4 : u_T := fun k => match k with
  | 0 => ("ShortTrees$Tree", "choices", "[I", true)
  | 1 => ("ShortTrees$Tree", "one", "[I", true)
  | 2 => ("ShortTrees$Tree", "other", "[I", true)
  | 3 => ("ShortTrees$Tree", "below", "[I", true)
  | 4 => ("ShortTrees$Tree", "sets", "[J", true)
  | 5 => ("ShortTrees$Tree", "order", "[I", true)
  | _ => ("ShortTrees$Tree", "inner", "I", false)
def tyX4 : Nat → FieldType := fun k => match k with
  | 0 => .array .int
  | 1 => .array .int
  | 2 => .array .int
  | 3 => .array .int
  | 4 => .array .long
  | 5 => .array .int
  | _ => .int
abbrev wsX40 : List Cond := u_ws RX4 TX4 7
theorem nmX4 : ∀ a, a < 7 → ∀ b, b < 7 → a ≠ b → (TX4 a).2.1 ≠ (TX4 b).2.1 := by decide +kernel
theorem tyX4_ok : ∀ k, k < 7 → parseFieldDescriptor (TX4 k).2.2.1 = some (tyX4 k) := by decide +kernel
abbrev cX4_init : ByteArray := prog_6_method_1_code
def yX4_init : MethodName := ⟨RX4, "<init>", "()V"⟩
abbrev cX4_grow : ByteArray := prog_6_method_2_code
def yX4_grow : MethodName := ⟨RX4, "grow", "(II)V"⟩
abbrev cX4_growAndMeasure : ByteArray := prog_6_method_3_code
def yX4_growAndMeasure : MethodName := ⟨RX4, "growAndMeasure", "(ILShortTrees$Table;)I"⟩
abbrev cX4_choose : ByteArray := prog_6_method_4_code
def yX4_choose : MethodName := ⟨RX4, "choose", "(II)V"⟩
abbrev cX4_chosenNode : ByteArray := prog_6_method_5_code
def yX4_chosenNode : MethodName := ⟨RX4, "chosenNode", "(I)I"⟩
abbrev cX4_insert : ByteArray := prog_6_method_6_code
def yX4_insert : MethodName := ⟨RX4, "insert", "(II)V"⟩
abbrev cX4_makeRoom : ByteArray := prog_6_method_7_code
def yX4_makeRoom : MethodName := ⟨RX4, "makeRoom", "(III)V"⟩
abbrev cX4_packedChanges : ByteArray := prog_6_method_8_code
def yX4_packedChanges : MethodName := ⟨RX4, "packedChanges", "(LShortTrees$Table;)J"⟩
abbrev cX4_tornAt : ByteArray := prog_6_method_9_code
def yX4_tornAt : MethodName := ⟨RX4, "tornAt", "(II)J"⟩
abbrev cX4_joined : ByteArray := prog_6_method_10_code
def yX4_joined : MethodName := ⟨RX4, "joined", "(IIJ)J"⟩
abbrev cX4_splitCount : ByteArray := prog_6_method_11_code
def yX4_splitCount : MethodName := ⟨RX4, "splitCount", "()I"⟩
abbrev cX4_splitAt : ByteArray := prog_6_method_12_code
def yX4_splitAt : MethodName := ⟨RX4, "splitAt", "(I)I"⟩
abbrev cX4_hasSplit : ByteArray := prog_6_method_13_code
def yX4_hasSplit : MethodName := ⟨RX4, "hasSplit", "(I)Z"⟩
abbrev cX4_splitsNotIn : ByteArray := prog_6_method_14_code
def yX4_splitsNotIn : MethodName := ⟨RX4, "splitsNotIn", "(LShortTrees$Tree;)I"⟩
def RX5 : String := "ShortTrees"
def TX5 : u_T := fun k => match k with
  | 0 => ("ShortTrees", "text", "LShortTrees$Text;", true)
  | 1 => ("ShortTrees", "grown", "LShortTrees$Tree;", true)
  | 2 => ("ShortTrees", "alsoGrown", "LShortTrees$Tree;", true)
  | 3 => ("ShortTrees", "finds", "LShortTrees$Finds;", true)
  | 4 => ("ShortTrees", "page", "LShortTrees$Page;", true)
  | 5 => ("ShortTrees", "current", "LShortTrees$Table;", false)
  | _ => ("ShortTrees", "spare", "LShortTrees$Table;", false)
def tyX5 : Nat → FieldType := fun k => match k with
  | 0 => .object "ShortTrees$Text"
  | 1 => .object "ShortTrees$Tree"
  | 2 => .object "ShortTrees$Tree"
  | 3 => .object "ShortTrees$Finds"
  | 4 => .object "ShortTrees$Page"
  | 5 => .object "ShortTrees$Table"
  | _ => .object "ShortTrees$Table"
abbrev wsX50 : List Cond := u_ws RX5 TX5 7
theorem nmX5 : ∀ a, a < 7 → ∀ b, b < 7 → a ≠ b → (TX5 a).2.1 ≠ (TX5 b).2.1 := by decide +kernel
theorem tyX5_ok : ∀ k, k < 7 → parseFieldDescriptor (TX5 k).2.2.1 = some (tyX5 k) := by decide +kernel
abbrev cX5_init : ByteArray := prog_1_method_1_code
def yX5_init : MethodName := ⟨RX5, "<init>", "()V"⟩
abbrev cX5_type : ByteArray := prog_1_method_2_code
def yX5_type : MethodName := ⟨RX5, "type", "(C)I"⟩
abbrev cX5_table : ByteArray := prog_1_method_3_code
def yX5_table : MethodName := ⟨RX5, "table", "()I"⟩
abbrev cX5_states : ByteArray := prog_1_method_4_code
def yX5_states : MethodName := ⟨RX5, "states", "(II)I"⟩
abbrev cX5_weigh : ByteArray := prog_1_method_5_code
def yX5_weigh : MethodName := ⟨RX5, "weigh", "(II)I"⟩
abbrev cX5_trees : ByteArray := prog_1_method_6_code
def yX5_trees : MethodName := ⟨RX5, "trees", "()I"⟩
abbrev cX5_changes : ByteArray := prog_1_method_7_code
def yX5_changes : MethodName := ⟨RX5, "changes", "(II)I"⟩
abbrev cX5_length : ByteArray := prog_1_method_8_code
def yX5_length : MethodName := ⟨RX5, "length", "(I)I"⟩
abbrev cX5_search : ByteArray := prog_1_method_9_code
def yX5_search : MethodName := ⟨RX5, "search", "()I"⟩
abbrev cX5_found : ByteArray := prog_1_method_10_code
def yX5_found : MethodName := ⟨RX5, "found", "()I"⟩
abbrev cX5_best : ByteArray := prog_1_method_11_code
def yX5_best : MethodName := ⟨RX5, "best", "(I)I"⟩
abbrev cX5_split : ByteArray := prog_1_method_12_code
def yX5_split : MethodName := ⟨RX5, "split", "(II)Z"⟩
abbrev cX5_share : ByteArray := prog_1_method_13_code
def yX5_share : MethodName := ⟨RX5, "share", "(I)F"⟩
abbrev cX5_distance : ByteArray := prog_1_method_14_code
def yX5_distance : MethodName := ⟨RX5, "distance", "(II)I"⟩
abbrev cX5_consistency : ByteArray := prog_1_method_15_code
def yX5_consistency : MethodName := ⟨RX5, "consistency", "(I)F"⟩
abbrev cX5_retention : ByteArray := prog_1_method_16_code
def yX5_retention : MethodName := ⟨RX5, "retention", "(I)F"⟩
abbrev cX5_write : ByteArray := prog_1_method_17_code
def yX5_write : MethodName := ⟨RX5, "write", "(I)I"⟩
abbrev cX5_common : ByteArray := prog_1_method_18_code
def yX5_common : MethodName := ⟨RX5, "common", "(F)I"⟩
abbrev cX5_written : ByteArray := prog_1_method_19_code
def yX5_written : MethodName := ⟨RX5, "written", "(I)C"⟩
abbrev cX5_requireTree : ByteArray := prog_1_method_20_code
def yX5_requireTree : MethodName := ⟨RX5, "requireTree", "(I)V"⟩
abbrev cX5_requireCharacter : ByteArray := prog_1_method_21_code
def yX5_requireCharacter : MethodName := ⟨RX5, "requireCharacter", "(I)V"⟩
abbrev cX5_requireFinds : ByteArray := prog_1_method_22_code
def yX5_requireFinds : MethodName := ⟨RX5, "requireFinds", "()V"⟩
def RX6 : String := "ShortTreesModel"
def TX6 : u_T := fun k => match k with
  | 0 => ("ShortTreesModel", "length", "I", false)
  | 1 => ("ShortTreesModel", "text", "[C", true)
  | 2 => ("ShortTreesModel", "place", "I", false)
  | 3 => ("ShortTreesModel", "fault", "I", false)
  | 4 => ("ShortTreesModel", "kinds", "I", false)
  | 5 => ("ShortTreesModel", "characters", "I", false)
  | 6 => ("ShortTreesModel", "states", "[I", true)
  | 7 => ("ShortTreesModel", "weight", "[I", true)
  | 8 => ("ShortTreesModel", "fresh", "[I", true)
  | 9 => ("ShortTreesModel", "rows", "I", false)
  | 10 => ("ShortTreesModel", "entries", "I", false)
  | 11 => ("ShortTreesModel", "found", "I", false)
  | 12 => ("ShortTreesModel", "best", "[I", true)
  | 13 => ("ShortTreesModel", "top", "I", false)
  | 14 => ("ShortTreesModel", "left", "[I", true)
  | 15 => ("ShortTreesModel", "right", "[I", true)
  | 16 => ("ShortTreesModel", "set", "[I", true)
  | 17 => ("ShortTreesModel", "ready", "[Z", true)
  | 18 => ("ShortTreesModel", "cost", "[I", true)
  | 19 => ("ShortTreesModel", "splits", "I", false)
  | 20 => ("ShortTreesModel", "splitSet", "[I", true)
  | 21 => ("ShortTreesModel", "otherSplits", "I", false)
  | 22 => ("ShortTreesModel", "otherSet", "[I", true)
  | 23 => ("ShortTreesModel", "size", "I", false)
  | 24 => ("ShortTreesModel", "written", "[C", true)
  | 25 => ("ShortTreesModel", "open", "[I", true)
  | _ => ("ShortTreesModel", "thrown", "I", false)
def tyX6 : Nat → FieldType := fun k => match k with
  | 0 => .int
  | 1 => .array .char
  | 2 => .int
  | 3 => .int
  | 4 => .int
  | 5 => .int
  | 6 => .array .int
  | 7 => .array .int
  | 8 => .array .int
  | 9 => .int
  | 10 => .int
  | 11 => .int
  | 12 => .array .int
  | 13 => .int
  | 14 => .array .int
  | 15 => .array .int
  | 16 => .array .int
  | 17 => .array .boolean
  | 18 => .array .int
  | 19 => .int
  | 20 => .array .int
  | 21 => .int
  | 22 => .array .int
  | 23 => .int
  | 24 => .array .char
  | 25 => .array .int
  | _ => .int
abbrev wsX60 : List Cond := u_ws RX6 TX6 27
theorem nmX6 : ∀ a, a < 27 → ∀ b, b < 27 → a ≠ b → (TX6 a).2.1 ≠ (TX6 b).2.1 := by decide +kernel
theorem tyX6_ok : ∀ k, k < 27 → parseFieldDescriptor (TX6 k).2.2.1 = some (tyX6 k) := by decide +kernel
abbrev cX6_init : ByteArray := prog_8_method_1_code
def yX6_init : MethodName := ⟨RX6, "<init>", "()V"⟩
abbrev cX6_thrown : ByteArray := prog_8_method_2_code
def yX6_thrown : MethodName := ⟨RX6, "thrown", "()I"⟩
abbrev cX6_type : ByteArray := prog_8_method_3_code
def yX6_type : MethodName := ⟨RX6, "type", "(C)I"⟩
abbrev cX6_here : ByteArray := prog_8_method_4_code
def yX6_here : MethodName := ⟨RX6, "here", "()I"⟩
abbrev cX6_wrong : ByteArray := prog_8_method_5_code
def yX6_wrong : MethodName := ⟨RX6, "wrong", "()V"⟩
abbrev cX6_must : ByteArray := prog_8_method_6_code
def yX6_must : MethodName := ⟨RX6, "must", "(I)V"⟩
abbrev cX6_isState : ByteArray := prog_8_method_7_code
def yX6_isState : MethodName := ⟨RX6, "isState", "(I)Z"⟩
abbrev cX6_entry : ByteArray := prog_8_method_8_code
def yX6_entry : MethodName := ⟨RX6, "entry", "()I"⟩
abbrev cX6_row : ByteArray := prog_8_method_9_code
def yX6_row : MethodName := ⟨RX6, "row", "()V"⟩
abbrev cX6_table : ByteArray := prog_8_method_10_code
def yX6_table : MethodName := ⟨RX6, "table", "()I"⟩
abbrev cX6_isCharacter : ByteArray := prog_8_method_11_code
def yX6_isCharacter : MethodName := ⟨RX6, "isCharacter", "(I)Z"⟩
abbrev cX6_states : ByteArray := prog_8_method_12_code
def yX6_states : MethodName := ⟨RX6, "states", "(II)I"⟩
abbrev cX6_weigh : ByteArray := prog_8_method_13_code
def yX6_weigh : MethodName := ⟨RX6, "weigh", "(II)I"⟩
abbrev cX6_many : ByteArray := prog_8_method_14_code
def yX6_many : MethodName := ⟨RX6, "many", "()I"⟩
abbrev cX6_trees : ByteArray := prog_8_method_15_code
def yX6_trees : MethodName := ⟨RX6, "trees", "()I"⟩
abbrev cX6_isTree : ByteArray := prog_8_method_16_code
def yX6_isTree : MethodName := ⟨RX6, "isTree", "(I)Z"⟩
abbrev cX6_replace : ByteArray := prog_8_method_17_code
def yX6_replace : MethodName := ⟨RX6, "replace", "(II)V"⟩
abbrev cX6_choice : ByteArray := prog_8_method_18_code
def yX6_choice : MethodName := ⟨RX6, "choice", "(II)I"⟩
abbrev cX6_grow : ByteArray := prog_8_method_19_code
def yX6_grow : MethodName := ⟨RX6, "grow", "(I)V"⟩
abbrev cX6_gather : ByteArray := prog_8_method_20_code
def yX6_gather : MethodName := ⟨RX6, "gather", "()V"⟩
abbrev cX6_least : ByteArray := prog_8_method_21_code
def yX6_least : MethodName := ⟨RX6, "least", "(II)I"⟩
abbrev cX6_from : ByteArray := prog_8_method_22_code
def yX6_from : MethodName := ⟨RX6, "from", "(II)I"⟩
abbrev cX6_needed : ByteArray := prog_8_method_23_code
def yX6_needed : MethodName := ⟨RX6, "needed", "(I)I"⟩
abbrev cX6_changes : ByteArray := prog_8_method_24_code
def yX6_changes : MethodName := ⟨RX6, "changes", "(II)I"⟩
abbrev cX6_lengthOf : ByteArray := prog_8_method_25_code
def yX6_lengthOf : MethodName := ⟨RX6, "lengthOf", "(I)I"⟩
abbrev cX6_length : ByteArray := prog_8_method_26_code
def yX6_length : MethodName := ⟨RX6, "length", "(I)I"⟩
abbrev cX6_search : ByteArray := prog_8_method_27_code
def yX6_search : MethodName := ⟨RX6, "search", "()I"⟩
abbrev cX6_found : ByteArray := prog_8_method_28_code
def yX6_found : MethodName := ⟨RX6, "found", "()I"⟩
abbrev cX6_best : ByteArray := prog_8_method_29_code
def yX6_best : MethodName := ⟨RX6, "best", "(I)I"⟩
abbrev cX6_hasSplit : ByteArray := prog_8_method_30_code
def yX6_hasSplit : MethodName := ⟨RX6, "hasSplit", "(I)Z"⟩
abbrev cX6_split : ByteArray := prog_8_method_31_code
def yX6_split : MethodName := ⟨RX6, "split", "(II)Z"⟩
abbrev cX6_sharing : ByteArray := prog_8_method_32_code
def yX6_sharing : MethodName := ⟨RX6, "sharing", "(I)I"⟩
abbrev cX6_share : ByteArray := prog_8_method_33_code
def yX6_share : MethodName := ⟨RX6, "share", "(I)F"⟩
abbrev cX6_distance : ByteArray := prog_8_method_34_code
def yX6_distance : MethodName := ⟨RX6, "distance", "(II)I"⟩
abbrev cX6_ones : ByteArray := prog_8_method_35_code
def yX6_ones : MethodName := ⟨RX6, "ones", "(I)I"⟩
abbrev cX6_leastOf : ByteArray := prog_8_method_36_code
def yX6_leastOf : MethodName := ⟨RX6, "leastOf", "(I)I"⟩
abbrev cX6_mostOf : ByteArray := prog_8_method_37_code
def yX6_mostOf : MethodName := ⟨RX6, "mostOf", "(I)I"⟩
abbrev cX6_sum : ByteArray := prog_8_method_38_code
def yX6_sum : MethodName := ⟨RX6, "sum", "(Z)I"⟩
abbrev cX6_consistency : ByteArray := prog_8_method_39_code
def yX6_consistency : MethodName := ⟨RX6, "consistency", "(I)F"⟩
abbrev cX6_retention : ByteArray := prog_8_method_40_code
def yX6_retention : MethodName := ⟨RX6, "retention", "(I)F"⟩
abbrev cX6_put : ByteArray := prog_8_method_41_code
def yX6_put : MethodName := ⟨RX6, "put", "(I)V"⟩
abbrev cX6_part : ByteArray := prog_8_method_42_code
def yX6_part : MethodName := ⟨RX6, "part", "(II)I"⟩
abbrev cX6_spread : ByteArray := prog_8_method_43_code
def yX6_spread : MethodName := ⟨RX6, "spread", "(II)I"⟩
abbrev cX6_writeSplits : ByteArray := prog_8_method_44_code
def yX6_writeSplits : MethodName := ⟨RX6, "writeSplits", "()I"⟩
abbrev cX6_write : ByteArray := prog_8_method_45_code
def yX6_write : MethodName := ⟨RX6, "write", "(I)I"⟩
abbrev cX6_common : ByteArray := prog_8_method_46_code
def yX6_common : MethodName := ⟨RX6, "common", "(F)I"⟩
abbrev cX6_written : ByteArray := prog_8_method_47_code
def yX6_written : MethodName := ⟨RX6, "written", "(I)C"⟩
def RJ6 : String := "java/lang/Integer"
def TJ6 : u_T := fun k => match k with
  | _ => ("", "", "", false)
def tyJ6 : Nat → FieldType := fun k => match k with
  | _ => .int
abbrev wsJ60 : List Cond := u_ws RJ6 TJ6 0
theorem nmJ6 : ∀ a, a < 0 → ∀ b, b < 0 → a ≠ b → (TJ6 a).2.1 ≠ (TJ6 b).2.1 := by decide +kernel
theorem tyJ6_ok : ∀ k, k < 0 → parseFieldDescriptor (TJ6 k).2.2.1 = some (tyJ6 k) := by decide +kernel
abbrev cJ6_bitCount_0f7a4 : ByteArray := prog_13_method_49_code
def yJ6_bitCount_0f7a4 : MethodName := ⟨RJ6, "bitCount", "(I)I"⟩
def RJ9 : String := "java/lang/Math"
def TJ9 : u_T := fun k => match k with
  | _ => ("", "", "", false)
def tyJ9 : Nat → FieldType := fun k => match k with
  | _ => .int
abbrev wsJ90 : List Cond := u_ws RJ9 TJ9 0
theorem nmJ9 : ∀ a, a < 0 → ∀ b, b < 0 → a ≠ b → (TJ9 a).2.1 ≠ (TJ9 b).2.1 := by decide +kernel
theorem tyJ9_ok : ∀ k, k < 0 → parseFieldDescriptor (TJ9 k).2.2.1 = some (tyJ9 k) := by decide +kernel
abbrev cJ9_max_7cf53 : ByteArray := prog_14_method_65_code
def yJ9_max_7cf53 : MethodName := ⟨RJ9, "max", "(II)I"⟩
abbrev cJ9_min_7cf53 : ByteArray := prog_14_method_69_code
def yJ9_min_7cf53 : MethodName := ⟨RJ9, "min", "(II)I"⟩
def RJ0 : String := "java/lang/String"
def TJ0 : u_T := fun k => match k with
  | _ => ("", "", "", false)
def tyJ0 : Nat → FieldType := fun k => match k with
  | _ => .int
abbrev wsJ00 : List Cond := u_ws RJ0 TJ0 0
theorem nmJ0 : ∀ a, a < 0 → ∀ b, b < 0 → a ≠ b → (TJ0 a).2.1 ≠ (TJ0 b).2.1 := by decide +kernel
theorem tyJ0_ok : ∀ k, k < 0 → parseFieldDescriptor (TJ0 k).2.2.1 = some (tyJ0 k) := by decide +kernel
def RJ10 : String := "java/lang/System"
def TJ10 : u_T := fun k => match k with
  | _ => ("", "", "", false)
def tyJ10 : Nat → FieldType := fun k => match k with
  | _ => .int
abbrev wsJ100 : List Cond := u_ws RJ10 TJ10 0
theorem nmJ10 : ∀ a, a < 0 → ∀ b, b < 0 → a ≠ b → (TJ10 a).2.1 ≠ (TJ10 b).2.1 := by decide +kernel
theorem tyJ10_ok : ∀ k, k < 0 → parseFieldDescriptor (TJ10 k).2.2.1 = some (tyJ10 k) := by decide +kernel
def RJ7 : String := "java/util/Arrays"
def TJ7 : u_T := fun k => match k with
  | _ => ("", "", "", false)
def tyJ7 : Nat → FieldType := fun k => match k with
  | _ => .int
abbrev wsJ70 : List Cond := u_ws RJ7 TJ7 0
theorem nmJ7 : ∀ a, a < 0 → ∀ b, b < 0 → a ≠ b → (TJ7 a).2.1 ≠ (TJ7 b).2.1 := by decide +kernel
theorem tyJ7_ok : ∀ k, k < 0 → parseFieldDescriptor (TJ7 k).2.2.1 = some (tyJ7 k) := by decide +kernel
abbrev cJ7_fill_d0a16 : ByteArray := prog_19_method_101_code
def yJ7_fill_d0a16 : MethodName := ⟨RJ7, "fill", "([JJ)V"⟩
abbrev cJ7_fill_53178 : ByteArray := prog_19_method_103_code
def yJ7_fill_53178 : MethodName := ⟨RJ7, "fill", "([II)V"⟩
def RL : String := "ShortTreesLaw"
abbrev cL_type : ByteArray := method_3_code
def yL_type : MethodName := ⟨RL, "type", "(LShortTrees;C[J)I"⟩
abbrev cL_states : ByteArray := method_4_code
def yL_states : MethodName := ⟨RL, "states", "(LShortTrees;II[J)I"⟩
abbrev cL_weigh : ByteArray := method_5_code
def yL_weigh : MethodName := ⟨RL, "weigh", "(LShortTrees;II[J)I"⟩
abbrev cL_changes : ByteArray := method_6_code
def yL_changes : MethodName := ⟨RL, "changes", "(LShortTrees;II[J)I"⟩
abbrev cL_length : ByteArray := method_7_code
def yL_length : MethodName := ⟨RL, "length", "(LShortTrees;I[J)I"⟩
abbrev cL_search : ByteArray := method_8_code
def yL_search : MethodName := ⟨RL, "search", "(LShortTrees;[J)I"⟩
abbrev cL_best : ByteArray := method_9_code
def yL_best : MethodName := ⟨RL, "best", "(LShortTrees;I[J)I"⟩
abbrev cL_split : ByteArray := method_10_code
def yL_split : MethodName := ⟨RL, "split", "(LShortTrees;II[J)I"⟩
abbrev cL_share : ByteArray := method_11_code
def yL_share : MethodName := ⟨RL, "share", "(LShortTrees;I[D)I"⟩
abbrev cL_distance : ByteArray := method_12_code
def yL_distance : MethodName := ⟨RL, "distance", "(LShortTrees;II[J)I"⟩
abbrev cL_consistency : ByteArray := method_13_code
def yL_consistency : MethodName := ⟨RL, "consistency", "(LShortTrees;I[D)I"⟩
abbrev cL_retention : ByteArray := method_14_code
def yL_retention : MethodName := ⟨RL, "retention", "(LShortTrees;I[D)I"⟩
abbrev cL_write : ByteArray := method_15_code
def yL_write : MethodName := ⟨RL, "write", "(LShortTrees;I[J)I"⟩
abbrev cL_common : ByteArray := method_16_code
def yL_common : MethodName := ⟨RL, "common", "(LShortTrees;F[J)I"⟩
abbrev cL_law : ByteArray := code
def yL_law : MethodName := ⟨RL, "law", "([I)Z"⟩
abbrev vwCl : List vw_C := [(RX0, TX0, 3), (RX1, TX1, 4), (RX2, TX2, 4), (RX3, TX3, 3), (RX4, TX4, 7), (RX5, TX5, 7), (RX6, TX6, 27)]
end
section
/-! ===== BEGIN words of one list among another's, by their places ===== -/
theorem goodIn_r {big : List Cond} (ws : List Cond) (ps : List Nat) (hp : ws = ps.filterMap (fun i => big[i]?)) (h : ws.all goodWord = true) : GoodIn big ws := by
  intro w hw
  have h1 := List.all_eq_true.mp h w hw
  rw [hp] at hw
  obtain ⟨i, -, hi⟩ := List.mem_filterMap.mp hw
  have hm : w ∈ big := by first | exact List.mem_of_getElem? hi | exact List.getElem?_mem hi
  exact ⟨hm, good_of_word h1⟩
theorem goodIn_app {big a b : List Cond} (ha : GoodIn big a) (hb : GoodIn big b) : GoodIn big (a ++ b) := fun w h => (List.mem_append.mp h).elim (ha w) (hb w)
theorem goodIn_ca {big a b : List Cond} {c : Cond} (ha : GoodIn big (c :: a)) (hb : GoodIn big b) : GoodIn big (c :: (a ++ b)) := fun w h => (List.mem_cons.mp h).elim (fun e => ha w (List.mem_cons.mpr (Or.inl e))) (fun h => (List.mem_append.mp h).elim (fun h => ha w (List.mem_cons.mpr (Or.inr h))) (hb w))
theorem goodIn_sub {big ws : List Cond} (hm : ∀ w ∈ ws, w ∈ big) (h : ws.all goodWord = true) : GoodIn big ws := fun w hw => ⟨hm w hw, good_of_word (List.all_eq_true.mp h w hw)⟩
/-! ===== END ===== -/

/-! ===== BEGIN exceptions that leave a method, and their catching by the caller (launches without stack traces) ===== -/
section VXA
/-! The laws vx_back, vx_callV, vx_callS, vx_callSW, vx_throw0, vx_throwS follow proofs of the library, with one case more: JvmDerived/Free/Laws.lean (Back.of_free), Shelf42/LK1.lean (callV, callS), Shelf/KitTraced.lean (throwNew0V, throwNewS). -/
/-- where a method has thrown q: the class by its name, the cell, what was written, the world -/
def vx_T (XC : String → State → State → Prop) (st : State) (q : Addr) (t : State) (mc ms : Nat) (free : Addr → Prop) : Prop :=
  ∃ (E : String) (ce : Cell) (L : List Loc), XC E st t ∧ t.heap[q]? = some ce ∧ ce.vm = .none ∧ st.vm.findClass E = some ce.cls ∧ st.WarmedH t.vm ∧ st.sameButNew ({ t with vm := st.vm } : State) L mc ms ∧ ∀ z ∈ L, free z.base
def vx_Q (Qc : Array Value → State → Outcome → State → Prop) (XC : String → State → State → Prop) (mc ms : Nat) (free : Addr → Prop) : Array Value → State → Outcome → State → Prop := fun a st o t =>
  (Qc a st o t ∧ ∃ L, FrameEnd st o t L mc ms ∧ ∀ q ∈ L, free q.base) ∨ ∃ q, o = .threw q ∧ vx_T XC st q t mc ms free
/-- a callee that returns or throws -/
def vx_Met (l : Launch) (y : MethodName) (ws : List Cond) (rm : Room) (Pc : Array Value → State → Prop) (Qc : Array Value → State → Outcome → State → Prop) (XC : String → State → State → Prop) (mc ms : Nat) (free : Addr → Prop) : Prop :=
  MetFree l y (headSpec ws rm) Pc (fun _ _ _ _ _ => True) (vx_Q Qc XC mc ms free)
def vx_Post (XC : String → State → State → Prop) (mc ms : Nat) (free : Addr → Prop) : Pt → Array Value → Addr → Pt → Prop := fun A a q B =>
  ∃ (g : JFrame) (mk : MethodId) (t : State) (L : List Loc) (E : String) (ce : Cell), B.U.heap = t.heap ∧ B.U.vm = t.vm ∧ XC E (A.U.calling g mk a) t ∧ t.heap[q]? = some ce ∧ ce.vm = .none ∧ A.U.vm.findClass E = some ce.cls ∧ B.locs = A.locs ++ L ∧ (∀ z ∈ L, free z.base) ∧ B.cells = A.cells + mc ∧ B.slots = A.slots + ms
def vx_Back (l : Launch) (R : Room) (p : Program) (e : Env) (below : List Frame) (s : State) (sargs : Array Value) (y : MethodName) (len W9 : Nat)
    (Pre : Pt → Array Value → Prop) (Post : Pt → Array Value → Option Value → Pt → Prop) (PostX : Pt → Array Value → Addr → Pt → Prop) : Prop :=
  ∀ (m : MethodId) (meth : Method) (c : Code) (A : Pt) (g : JFrame) (ig : Instr) (mk : MethodId) (a : Array Value),
    Stand p l e R s m sargs below meth c A.U A.locs A.cells A.slots → g.method = m → g.locals.size = c.maxLocals → decode c.code g.pc = .ok (ig, len) →
    2 * g.monitorRoom + (g.stack.map fun v => v.category).sum ≤ W9 → A.U.methodNamed? y = some mk → Pre A a →
    (∃ (v : Option Value) (B : Pt), Stand p l e R s m sargs below meth c B.U B.locs B.cells B.slots ∧ Post A a v B ∧
      Steps p.tables e below (doInvoke e (A.U.setTop g) [] mk a).1 (B.U.setTop { g with pc := g.pc + len, stack := v.toList ++ g.stack })) ∨
    (∃ (q : Addr) (B : Pt), Stand p l e R s m sargs below meth c B.U B.locs B.cells B.slots ∧ PostX A a q B ∧
      Steps p.tables e below (doInvoke e (A.U.setTop g) [] mk a).1 ((B.U.setTop g).pushFrame (.throwing q)))
section Payer
variable {l : Launch} {R : Room} {p : Program} {e : Env} {below : List Frame} {s : State} {sargs : Array Value} {y : MethodName} {len W9 : Nat}
theorem vx_back {ws : List Cond} {rm : Room} {Pc : Array Value → State → Prop} {Qc : Array Value → State → Outcome → State → Prop} {XC : String → State → State → Prop} {mc ms : Nat} {free : Addr → Prop} {bytes : ByteArray} {maxL : Nat} {ret : Option FieldType}
    (hM : vx_Met l y ws rm Pc Qc XC mc ms free) (hblind : FrameBlind Pc) (hrc : rm.cells = mc) (hrs : rm.slots = ms)
    (hframes : rm.frames + 1 ≤ R.frames) (hlocals : W9 + (maxL + 11) + rm.locals ≤ R.locals)
    (hws : ∀ w ∈ ws, ∀ a' U, s.WarmedH U.vm → w.before a' U = true) (hcode : Cond.code y bytes maxL ret ∈ ws) (hinit : ∀ a' U, s.WarmedH U.vm → (Cond.initialized y.cls).before a' U = true) :
    vx_Back l R p e below s sargs y len W9 (PreOf R mc ms Pc) (PostOf Qc mc ms free) (vx_Post XC mc ms free) := by
  intro m meth c A g ig mk a X hg hsize hdg hW hn hp
  have h1 : (headSpec ws rm).pre.before a A.U = true := atoms_intro fun w hw => hws w hw _ _ X.warmed
  have h2 : (Cond.code y bytes maxL ret).before a A.U = true := hws _ hcode _ _ X.warmed
  have h3 : (Cond.initialized y.cls).before a A.U = true := hinit _ _ X.warmed
  have h4 : A.cells + (headSpec ws rm).room.cells ≤ R.cells := by rw [show (headSpec ws rm).room.cells = mc from hrc]; exact hp.1
  have h5 : A.slots + (headSpec ws rm).room.slots ≤ R.slots := by rw [show (headSpec ws rm).room.slots = ms from hrs]; exact hp.2.1
  have hPc : Pc a (A.U.calling g mk a) := hblind _ _ _ _ hp.2.2
  obtain ⟨U, Ls, c0, s0⟩ := A
  dsimp only [Pt.U, Pt.locs, Pt.cells, Pt.slots] at h1 h2 h3 h4 h5 X hn hPc ⊢
  obtain ⟨methY, cY, hmY, hcY, -, hlY, -, -, -, -⟩ := Cond.code_spec hn h2
  obtain ⟨kY, hkY, -⟩ := className_of_methodNamed hn
  have hinitY : kY.init = .initialized := Cond.initialized_spec (findClass_of_methodNamed hn) hkY h3
  have h : At U g.method c below := by rw [hg]; exact X.here
  have hlocals9 : W9 + (maxL + 11) + (headSpec ws rm).room.locals ≤ R.locals := hlocals
  have happ : (headSpec ws rm).appliesLoose y e.platform (U.calling g mk a) = true :=
    Spec.appliesLoose_calling (g := g) h hdg hn hkY hinitY
      (X.room_calling (g := g) (R' := (headSpec ws rm).room) hsize hmY hcY hframes (by rw [hlY]; omega) h4 h5) h1
  obtain ⟨mid, hmid⟩ := h.above
  have hfr : (U.setTop g).frames = (.java g :: mid) ++ below := by rw [State.frames_setTop' g h.top, hmid]; rfl
  obtain ⟨o, s₂, hsteps, -, hend, hq⟩ := Steps.callFree hM p X.admits X.cas X.clock (acts := []) hfr happ hPc trivial
  have hq' : vx_Q Qc XC mc ms free a (U.calling g mk a) o s₂ := hq
  rw [State.frames_setTop' g h.top] at hend
  obtain ⟨g₀, hg0⟩ := Option.isSome_iff_exists.mp h.top
  obtain ⟨r, hr⟩ := State.topJava?_eq_some.mp hg0
  have hr' : (({ U with heap := s₂.heap, slotsUsed := s₂.slotsUsed } : State).setVm s₂.vm).frames = .java g₀ :: r := hr
  rcases hq' with ⟨hqc, L, hfe, hL⟩ | ⟨q, rfl, E, ce, L, hx, hce, hcv, hcl, hW₂, hsm, hL⟩
  · obtain ⟨⟨v, rfl⟩, hW₂, e2, q2, q3, q4, q5, q6⟩ := id hfe
    have e3 : s₂ = ({ (U.calling g mk a).setFrames s₂.frames with heap := s₂.heap, slotsUsed := s₂.slotsUsed } : State).setVm s₂.vm := by
      have : s₂ = ({ s₂ with vm := (U.calling g mk a).vm } : State).setVm s₂.vm := rfl
      rw [e2] at this
      exact this
    obtain ⟨c₂, i₂, len₂, hc₂, hd₂, hf₂⟩ := hend
    have hW' : U.WarmedH s₂.vm := hW₂
    have hcc : c₂ = c := by
      have h1 : s₂.code? g.method = U.code? g.method := by
        rw [State.code?_eq, State.code?_eq, hW'.alike.method?]
      exact Option.some.inj (hc₂.symm.trans (h1.trans h.code))
    subst hcc
    have hlen : len₂ = len := by rw [hdg] at hd₂; cases hd₂; rfl
    subst hlen
    have hs₂ : s₂ = (({ U with heap := s₂.heap, slotsUsed := s₂.slotsUsed } : State).setVm s₂.vm).setTop { g with pc := g.pc + len₂, stack := v.toList ++ g.stack } := by
      refine e3.trans ?_
      rw [hf₂, State.calling_eq h.top, State.setFrames_setFrames, State.setTop_of_frames _ hr', hr]
      rfl
    have hsame : U.sameButNew ({ U with heap := s₂.heap, slotsUsed := s₂.slotsUsed } : State) L mc ms := by
      refine ⟨?_, q2, q3, q4, q5, q6⟩
      obtain ⟨t, ht, -⟩ := State.frames_cons hr
      show ({ U with heap := s₂.heap, slotsUsed := s₂.slotsUsed } : State) = { U.setFrames U.frames with heap := s₂.heap, slotsUsed := s₂.slotsUsed }
      rw [State.setFrames_self ht]
    subst hg
    refine Or.inl ⟨v, ⟨(({ U with heap := s₂.heap, slotsUsed := s₂.slotsUsed } : State).setVm s₂.vm), Ls ++ L, c0 + mc, s0 + ms⟩,
      ⟨X.admits, X.cas, X.clock, X.frames, X.room, X.hears, X.method, X.code, (X.here.setHeapUsed s₂.heap s₂.slotsUsed).setVm hW'.alike, X.tail, State.WarmedH.trans X.warmed hW', X.limits, X.bytes, X.same.trans (hsame.setVm s.vm)⟩,
      ⟨g, mk, s₂, L, rfl, rfl, hqc, rfl, hL, rfl, rfl⟩, ?_⟩
    show Steps p.tables e below _ ((({ U with heap := s₂.heap, slotsUsed := s₂.slotsUsed } : State).setVm s₂.vm).setTop { g with pc := g.pc + len₂, stack := v.toList ++ g.stack })
    rw [← hs₂]
    exact hsteps
  · obtain ⟨e2, q2, q3, q4, q5, q6⟩ := id hsm
    have e3 : s₂ = ({ (U.calling g mk a).setFrames s₂.frames with heap := s₂.heap, slotsUsed := s₂.slotsUsed } : State).setVm s₂.vm := by
      have : s₂ = ({ s₂ with vm := (U.calling g mk a).vm } : State).setVm s₂.vm := rfl
      rw [e2] at this
      exact this
    have hf₂ : s₂.frames = .throwing q :: .java g :: U.frames.tail := hend
    have hW' : U.WarmedH s₂.vm := hW₂
    have hs₂ : s₂ = ((({ U with heap := s₂.heap, slotsUsed := s₂.slotsUsed } : State).setVm s₂.vm).setTop g).pushFrame (.throwing q) := by
      refine e3.trans ?_
      rw [hf₂, State.calling_eq h.top, State.setFrames_setFrames, State.pushFrame, State.frames_setTop _ hr', State.setTop_of_frames _ hr', State.setFrames_setFrames, hr]
      rfl
    have hsame : U.sameButNew ({ U with heap := s₂.heap, slotsUsed := s₂.slotsUsed } : State) L mc ms := by
      refine ⟨?_, q2, q3, q4, q5, q6⟩
      obtain ⟨t, ht, -⟩ := State.frames_cons hr
      show ({ U with heap := s₂.heap, slotsUsed := s₂.slotsUsed } : State) = { U.setFrames U.frames with heap := s₂.heap, slotsUsed := s₂.slotsUsed }
      rw [State.setFrames_self ht]
    subst hg
    refine Or.inr ⟨q, ⟨(({ U with heap := s₂.heap, slotsUsed := s₂.slotsUsed } : State).setVm s₂.vm), Ls ++ L, c0 + mc, s0 + ms⟩,
      ⟨X.admits, X.cas, X.clock, X.frames, X.room, X.hears, X.method, X.code, (X.here.setHeapUsed s₂.heap s₂.slotsUsed).setVm hW'.alike, X.tail, State.WarmedH.trans X.warmed hW', X.limits, X.bytes, X.same.trans (hsame.setVm s.vm)⟩,
      ⟨g, mk, s₂, L, E, ce, rfl, rfl, hx, hce, hcv, hcl, rfl, hL, rfl, rfl⟩, ?_⟩
    show Steps p.tables e below _ (((({ U with heap := s₂.heap, slotsUsed := s₂.slotsUsed } : State).setVm s₂.vm).setTop g).pushFrame (.throwing q))
    rw [← hs₂]
    exact hsteps
end Payer
section Calls
variable {p : Program} {l : Launch} {e : Env} {R : Room} {s : State} {m : MethodId} {args : Array Value} {below : List Frame} {meth : Method} {c : Code} {T : State} {locs : List Loc} {cells slots : Nat}
theorem vx_callV (X : Stand p l e R s m args below meth c T locs cells slots) (hexec : p.tables.exec = Jvm.exec) {own C : String} {index : Nat} {y : MethodName} {bytes : ByteArray} {maxL : Nat} {ret : Option FieldType}
    (hown : s.vm.findClass own = some m.cls) (hlink : (Cond.methodLink own index y).before args s = true) (hinst : (Cond.instanceMethod y).before args s = true) (hsel : (Cond.selects C y y).before args s = true)
    (hcode : (Cond.code y bytes maxL ret).before args s = true) (hy : y.cls ≠ "java/lang/invoke/MethodHandle" ∧ y.cls ≠ "java/lang/invoke/VarHandle")
    {W9 : Nat} {Pre : Pt → Array Value → Prop} {Post : Pt → Array Value → Option Value → Pt → Prop} {PostX : Pt → Array Value → Addr → Pt → Prop} (hK : vx_Back l R p e below s args y 3 W9 Pre Post PostX)
    {b : Addr} {cellB : Cell} (hcell : T.heap[b]? = some cellB) (hobj : cellB.vm.isStatics = false) (hcls : s.vm.findClass C = some cellB.cls)
    {g : JFrame} (hg : g.method = m) (hsize : g.locals.size = c.maxLocals) {argsL rest : List Value} (hlen : ∀ sig, parseMethodDescriptor y.desc = some sig → argsL.length = sig.parameters.length)
    (hstack : g.stack = argsL.reverse ++ .ref b :: rest) (hW : 2 * g.monitorRoom + (rest.map fun v => v.category).sum ≤ W9) (hdg : decode c.code g.pc = .ok (.invokevirtual index, 3))
    (hpre : ∀ vm₁, s.WarmedH vm₁ → Pre ⟨T.setVm vm₁, locs, cells, slots⟩ (Value.ref b :: argsL).toArray) :
    (∃ (v : Option Value) (vm₁ : Vm) (B : Pt), s.WarmedH vm₁ ∧ Stand p l e R s m args below meth c B.U B.locs B.cells B.slots ∧ Post ⟨T.setVm vm₁, locs, cells, slots⟩ (Value.ref b :: argsL).toArray v B ∧
      ∀ target, Steps p.tables e below (B.U.setTop { g with pc := g.pc + 3, stack := v.toList ++ rest }) target → Steps p.tables e below (T.setTop g) target) ∨
    (∃ (q : Addr) (vm₁ : Vm) (B : Pt), s.WarmedH vm₁ ∧ Stand p l e R s m args below meth c B.U B.locs B.cells B.slots ∧ PostX ⟨T.setVm vm₁, locs, cells, slots⟩ (Value.ref b :: argsL).toArray q B ∧
      Steps p.tables e below (T.setTop g) ((B.U.setTop { g with stack := rest }).pushFrame (.throwing q))) := by
  obtain ⟨mk, methM, hnamed, hmethM, hstM, habM⟩ := Cond.instanceMethod_spec hinst
  obtain ⟨methM', cM, hmethM', -, -, -, -, -, -, hsigM⟩ := Cond.code_spec hnamed hcode
  cases hmethM.symm.trans hmethM'
  obtain ⟨c2, r2, m2, q1, q2, q3, q4, kP, hkP, hkPi⟩ := Cond.selects_spec hsel
  cases hcls.symm.trans q1
  cases (State.methodFound?_of_named hnamed hy).symm.trans q2
  cases hnamed.symm.trans q3
  have hselP : selectMethod e.platform s.vm cellB.cls mk = .method mk := by rw [Launch.admits_selectMethod X.admits]; exact q4
  obtain ⟨vm₁, X₁, hstep₁⟩ := X.invokevirtual hexec hown hlink hnamed hmethM hstM hkP hkPi hy (a := b) (cell := cellB) hcell
    (fun z h => by rw [h] at hobj; cases hobj) hselP hmethM habM hkP hkPi (g := g) hg (argsL := argsL) (rest := rest) (hlen _ hsigM) hstack hdg
  rcases hK m meth c ⟨T.setVm vm₁, locs, cells, slots⟩ { g with stack := rest } (.invokevirtual index) mk (Value.ref b :: argsL).toArray X₁ hg hsize hdg hW (X₁.named hnamed) (hpre vm₁ X₁.warmed) with ⟨v, B, X', hpost, hsteps⟩ | ⟨q, B, X', hpost, hsteps⟩
  · exact Or.inl ⟨v, vm₁, B, X₁.warmed, X', hpost, fun target h => hstep₁ _ fun acts => by rw [doInvoke_state]; exact hsteps.trans h⟩
  · exact Or.inr ⟨q, vm₁, B, X₁.warmed, X', hpost, hstep₁ _ fun acts => by rw [doInvoke_state]; exact hsteps⟩
theorem vx_callS (X : Stand p l e R s m args below meth c T locs cells slots) (hexec : p.tables.exec = Jvm.exec) {own : String} {index : Nat} {y : MethodName} {bytes : ByteArray} {maxL : Nat} {ret : Option FieldType}
    (hown : s.vm.findClass own = some m.cls) (hlink : (Cond.methodLink own index y).before args s = true) (hstat : (Cond.static y).before args s = true) (hinit : (Cond.initialized y.cls).before args s = true)
    (hcode : (Cond.code y bytes maxL ret).before args s = true) (hy : y.cls ≠ "java/lang/invoke/MethodHandle" ∧ y.cls ≠ "java/lang/invoke/VarHandle")
    {W9 : Nat} {Pre : Pt → Array Value → Prop} {Post : Pt → Array Value → Option Value → Pt → Prop} {PostX : Pt → Array Value → Addr → Pt → Prop} (hK : vx_Back l R p e below s args y 3 W9 Pre Post PostX)
    {g : JFrame} (hg : g.method = m) (hsize : g.locals.size = c.maxLocals) {argsL rest : List Value} (hlen : ∀ sig, parseMethodDescriptor y.desc = some sig → argsL.length = sig.parameters.length)
    (hstack : g.stack = argsL.reverse ++ rest) (hW : 2 * g.monitorRoom + (rest.map fun v => v.category).sum ≤ W9) (hdg : decode c.code g.pc = .ok (.invokestatic index, 3))
    (hpre : ∀ vm₁, s.WarmedH vm₁ → Pre ⟨T.setVm vm₁, locs, cells, slots⟩ argsL.toArray) :
    (∃ (v : Option Value) (vm₁ : Vm) (B : Pt), s.WarmedH vm₁ ∧ Stand p l e R s m args below meth c B.U B.locs B.cells B.slots ∧ Post ⟨T.setVm vm₁, locs, cells, slots⟩ argsL.toArray v B ∧
      ∀ target, Steps p.tables e below (B.U.setTop { g with pc := g.pc + 3, stack := v.toList ++ rest }) target → Steps p.tables e below (T.setTop g) target) ∨
    (∃ (q : Addr) (vm₁ : Vm) (B : Pt), s.WarmedH vm₁ ∧ Stand p l e R s m args below meth c B.U B.locs B.cells B.slots ∧ PostX ⟨T.setVm vm₁, locs, cells, slots⟩ argsL.toArray q B ∧
      Steps p.tables e below (T.setTop g) ((B.U.setTop { g with stack := rest }).pushFrame (.throwing q))) := by
  obtain ⟨mk, hnamed⟩ := Cond.code_named hcode
  obtain ⟨methM, cM, hmethM, -, -, -, -, -, -, hsigM⟩ := Cond.code_spec hnamed hcode
  have hstatic : methM.isStatic = true := Cond.static_spec hnamed hmethM hstat
  obtain ⟨kP, hkP, -⟩ := className_of_methodNamed hnamed
  have hinitP : kP.init = .initialized := Cond.initialized_spec (findClass_of_methodNamed hnamed) hkP hinit
  obtain ⟨vm₁, X₁, hstep₁⟩ := X.invokestatic hexec hown hlink hnamed hmethM hstatic hkP hinitP hy (g := g) hg (argsL := argsL) (rest := rest) (hlen _ hsigM) hstack hdg
  rcases hK m meth c ⟨T.setVm vm₁, locs, cells, slots⟩ { g with stack := rest } (.invokestatic index) mk argsL.toArray X₁ hg hsize hdg hW (X₁.named hnamed) (hpre vm₁ X₁.warmed) with ⟨v, B, X', hpost, hsteps⟩ | ⟨q, B, X', hpost, hsteps⟩
  · exact Or.inl ⟨v, vm₁, B, X₁.warmed, X', hpost, fun target h => hstep₁ _ fun acts => by rw [doInvoke_state]; exact hsteps.trans h⟩
  · exact Or.inr ⟨q, vm₁, B, X₁.warmed, X', hpost, hstep₁ _ fun acts => by rw [doInvoke_state]; exact hsteps⟩
end Calls
theorem vx_cls {s : State} {T : State} {vm₁ : Vm} {E : String} {k : ClassId} (hW : s.WarmedH vm₁) (h : (T.setVm vm₁).vm.findClass E = some k) : s.vm.findClass E = some k := by
  have h1 : vm₁.findClass E = some k := h
  rw [hW.alike.findClass] at h1
  exact h1
/-- the method's frame g, with q thrown over it -/
def vx_W (p : Program) (l : Launch) (e : Env) (R : Room) (s : State) (m : MethodId) (args : Array Value) (below : List Frame) (meth : Method) (c : Code) (H : Heap) (locs : List Loc) (cells slots : Nat) (Q : State → Prop) (g : JFrame) (q : Addr) : Prop :=
  ∀ T : State, T.heap = H → Stand p l e R s m args below meth c T locs cells slots → ∃ t, Steps p.tables e below ((T.setTop g).pushFrame (.throwing q)) t ∧ Q t
def vx_Run (p : Program) (l : Launch) (e : Env) (R : Room) (s : State) (m : MethodId) (args : Array Value) (below : List Frame) (meth : Method) (c : Code) (H : Heap) (locs : List Loc) (cells slots mc ms : Nat) (g : JFrame) (rest : List Value) (Qa : State → Outcome → State → Prop) (XC : String → State → State → Prop) (free : Addr → Prop) : Prop :=
  ∀ T : State, T.heap = H → Stand p l e R s m args below meth c T locs cells slots →
    (∃ (v : Option Value) (st₀ t T' : State) (L : List Loc), st₀.heap = H ∧ Stand p l e R s m args below meth c T' (locs ++ L) (cells + mc) (slots + ms) ∧ (∀ q ∈ L, free q.base) ∧ T'.heap = t.heap ∧ T'.vm = t.vm ∧ Qa st₀ (.returned v) t ∧
      Goes p e below T g T' { g with pc := g.pc + 3, stack := v.toList ++ rest }) ∨
    (∃ (q : Addr) (st₀ t T' : State) (L : List Loc) (E : String) (ce : Cell), st₀.heap = H ∧ Stand p l e R s m args below meth c T' (locs ++ L) (cells + mc) (slots + ms) ∧ (∀ z ∈ L, free z.base) ∧ T'.heap = t.heap ∧ T'.vm = t.vm ∧ XC E st₀ t ∧ t.heap[q]? = some ce ∧ ce.vm = .none ∧ s.vm.findClass E = some ce.cls ∧
      Steps p.tables e below (T.setTop g) ((T'.setTop { g with stack := rest }).pushFrame (.throwing q)))
def vx_X {S : Type} (px : S → Prop) (B : String → S → State → Prop) (A : Nat → Prop) : String → State → State → Prop := fun E st t => ∃ u : S, px u ∧ B E u t ∧ va_F A st t
section Runs
variable {p : Program} {l : Launch} {e : Env} {R : Room} {s : State} {m : MethodId} {args : Array Value} {below : List Frame} {meth : Method} {c : Code} {H : Heap} {locs : List Loc} {cells slots : Nat}
variable {y : MethodName} {bytes cc : ByteArray} {maxL nL mc ms n index : Nat} {ret : Option FieldType} {ws : List Cond} {rm : Room} {Pc : Array Value → State → Prop} {Qc : Array Value → State → Outcome → State → Prop} {XC : String → State → State → Prop} {free : Addr → Prop} {Ts : List Cond} {own C : String} {b : Addr} {As rest : List Value} {g : JFrame}
theorem vx_callBack (cb : CallB R s args own index y bytes maxL ret ws rm mc ms n) (hM : vx_Met l y ws rm Pc Qc XC mc ms free) (hbl : FrameBlind Pc) : vx_Back l R p e below s args y 3 8 (PreOf R mc ms Pc) (PostOf Qc mc ms free) (vx_Post XC mc ms free) := by
  obtain ⟨hrc, hrs, hfr, hlo, hws, hcw, -, hini, -⟩ := cb
  exact vx_back (bytes := bytes) (maxL := maxL) (ret := ret) hM hbl hrc hrs hfr hlo hws hcw (fun a' U hW => word_at hW (Or.inl (by first | rfl | simp [Cond.onTables, Cond.keeps, Cond.steady])) hini)
theorem vx_runV (S : CallFix p m c cc nL s args Ts own) (hM : vx_Met l y ws rm Pc Qc XC mc ms free) (cw : CallW R s args own C index y bytes maxL ret ws rm mc ms n) (hp : PreV s H C b Pc As)
    (hg : g.method = m) (hn : As.length = n) (hsize : g.locals.size = nL) (hstack : g.stack = As.reverse ++ .ref b :: rest) (hW : 2 * g.monitorRoom + (rest.map fun v => v.category).sum ≤ 8) (hdg : decode cc g.pc = .ok (.invokevirtual index, 3)) (hf : cells + mc ≤ R.cells ∧ slots + ms ≤ R.slots) :
    vx_Run p l e R s m args below meth c H locs cells slots mc ms g rest (Qc (Value.ref b :: As).toArray) XC free := by
  have hK : vx_Back l R p e below s args y 3 8 (PreOf R mc ms Pc) (PostOf Qc mc ms free) (vx_Post XC mc ms free) := vx_callBack cw.1 hM hp.1
  obtain ⟨⟨-, -, -, -, -, -, hcode, -, hy, hlen, hl⟩, hin, hse⟩ := cw
  obtain ⟨hx, hb, hml, ho, -⟩ := S
  obtain ⟨-, ⟨cellB, hcB, hoB, hclB⟩, hPc⟩ := hp
  intro T hT X
  rcases vx_callV X hx (C := C) (bytes := bytes) (maxL := maxL) (ret := ret) ho hl hin hse hcode hy hK (by rw [hT]; exact hcB) hoB hclB hg (hsize.trans hml.symm) (argsL := As) (rest := rest) (fun sig h => hn.trans (hlen sig h)) hstack hW (by rw [hb]; exact hdg)
    (fun vm₁ hW₁ => ⟨hf.1, hf.2, hPc (T.setVm vm₁) hT hW₁⟩) with ⟨v, vm₁, ⟨U', l2, c2, s2⟩, hW₁, X', ⟨g', mk, t, L, e1, e2, hq, h1, hL, h2, h3⟩, st⟩ | ⟨q, vm₁, ⟨U', l2, c2, s2⟩, hW₁, X', ⟨g', mk, t, L, E, ce, e1, e2, hq, hce, hcv, hcl, h1, hL, h2, h3⟩, st⟩
  · dsimp only [Pt.U, Pt.locs, Pt.cells, Pt.slots] at X' e1 e2 h1 h2 h3 st
    subst h1; subst h2; subst h3
    exact Or.inl ⟨v, (T.setVm vm₁).calling g' mk (Value.ref b :: As).toArray, t, U', L, hT, X', hL, e1, e2, hq, st⟩
  · dsimp only [Pt.U, Pt.locs, Pt.cells, Pt.slots] at X' e1 e2 h1 h2 h3 st hcl
    subst h1; subst h2; subst h3
    exact Or.inr ⟨q, (T.setVm vm₁).calling g' mk (Value.ref b :: As).toArray, t, U', L, E, ce, hT, X', hL, e1, e2, hq, hce, hcv, vx_cls hW₁ hcl, st⟩
theorem vx_runS (S : CallFix p m c cc nL s args Ts own) (hM : vx_Met l y ws rm Pc Qc XC mc ms free) (cw : CallB R s args own index y bytes maxL ret ws rm mc ms n ∧ (Cond.static y).before args s = true) (hp : PreS s H Pc As)
    (hg : g.method = m) (hn : As.length = n) (hsize : g.locals.size = nL) (hstack : g.stack = As.reverse ++ rest) (hW : 2 * g.monitorRoom + (rest.map fun v => v.category).sum ≤ 8) (hdg : decode cc g.pc = .ok (.invokestatic index, 3)) (hf : cells + mc ≤ R.cells ∧ slots + ms ≤ R.slots) :
    vx_Run p l e R s m args below meth c H locs cells slots mc ms g rest (Qc As.toArray) XC free := by
  have hK : vx_Back l R p e below s args y 3 8 (PreOf R mc ms Pc) (PostOf Qc mc ms free) (vx_Post XC mc ms free) := vx_callBack cw.1 hM hp.1
  obtain ⟨⟨-, -, -, -, -, -, hcode, hini, hy, hlen, hl⟩, hstt⟩ := cw
  obtain ⟨hx, hb, hml, ho, -⟩ := S
  intro T hT X
  rcases vx_callS X hx (bytes := bytes) (maxL := maxL) (ret := ret) ho hl hstt hini hcode hy hK hg (hsize.trans hml.symm) (argsL := As) (rest := rest) (fun sig h => hn.trans (hlen sig h)) hstack hW (by rw [hb]; exact hdg)
    (fun vm₁ hW₁ => ⟨hf.1, hf.2, hp.2 (T.setVm vm₁) hT hW₁⟩) with ⟨v, vm₁, ⟨U', l2, c2, s2⟩, hW₁, X', ⟨g', mk, t, L, e1, e2, hq, h1, hL, h2, h3⟩, st⟩ | ⟨q, vm₁, ⟨U', l2, c2, s2⟩, hW₁, X', ⟨g', mk, t, L, E, ce, e1, e2, hq, hce, hcv, hcl, h1, hL, h2, h3⟩, st⟩
  · dsimp only [Pt.U, Pt.locs, Pt.cells, Pt.slots] at X' e1 e2 h1 h2 h3 st
    subst h1; subst h2; subst h3
    exact Or.inl ⟨v, (T.setVm vm₁).calling g' mk As.toArray, t, U', L, hT, X', hL, e1, e2, hq, st⟩
  · dsimp only [Pt.U, Pt.locs, Pt.cells, Pt.slots] at X' e1 e2 h1 h2 h3 st hcl
    subst h1; subst h2; subst h3
    exact Or.inr ⟨q, (T.setVm vm₁).calling g' mk As.toArray, t, U', L, E, ce, hT, X', hL, e1, e2, hq, hce, hcv, vx_cls hW₁ hcl, st⟩
end Runs
section Rows
variable {p : Program} {l : Launch} {e : Env} {R : Room} {s : State} {m : MethodId} {args : Array Value} {below : List Frame} {meth : Method} {c : Code} {H : Heap} {locs : List Loc} {cells slots : Nat} {Q : State → Prop}
variable {mc ms : Nat} {free : Addr → Prop} {A0 A1 : Nat → Prop} {H0 : Heap} {a : Array Value} {pc : Nat} {ls : Array Slot} {st0 rest : List Value}
theorem vx_keep {st₀ t T' : State} {L : List Loc} (h0 : st₀.heap = H) (e1 : T'.heap = t.heap) (hS : va_S A0 H0 H locs) (hA : ∀ q, q < H.size → A1 q → A0 q) (hf : ∀ q, free q → A0 q) (hL : ∀ q ∈ L, free q.base) (hF : va_F A1 st₀ t) :
    H.size ≤ T'.heap.size ∧ (∀ q : Nat, q < H.size → ¬ A1 q → T'.heap[q]? = H[q]?) ∧ va_S A0 H0 T'.heap (locs ++ L) := by
  obtain ⟨hz, hk⟩ := hF
  rw [h0] at hz hk
  exact ⟨by rw [e1]; exact hz, fun q h1 h2 => by rw [e1]; exact hk q h1 h2,
    ⟨Nat.le_trans hS.1 (by rw [e1]; exact hz), fun q h1 h2 => by rw [e1, hk q (Nat.lt_of_lt_of_le h1 hS.1) (fun z => h2 (hA q (Nat.lt_of_lt_of_le h1 hS.1) z))]; exact hS.2.1 q h1 h2, fun q hq => by
      rcases List.mem_append.mp hq with h | h
      · exact hS.2.2 q h
      · exact hf _ (hL q h)⟩⟩
theorem vx_calli {S SX : Type} {post : Int32 → S → Prop} {px : SX → Prop} {B : S → State → Prop} {BX : String → SX → State → Prop} {AX : Nat → Prop} (hr : vx_Run p l e R s m args below meth c H locs cells slots mc ms (F0 m pc ls st0) rest (va_Qi post B A1 a) (vx_X px BX AX) free) (hS : va_S A0 H0 H locs) (hA : ∀ q, q < H.size → A1 q → A0 q) (hf : ∀ q, free q → A0 q) (hAX : ∀ q, q < H.size → AX q → A0 q)
    (kx : ∀ (E : String) (ce : Cell) (q9 : Addr) (u : SX) (t : State) (H1 : Heap) (locs1 : List Loc), t.heap = H1 → s.vm.Alike t.vm → px u → BX E u t → H.size ≤ H1.size → (∀ q : Nat, q < H.size → ¬ AX q → H1[q]? = H[q]?) → va_S A0 H0 H1 locs1 → H1[q9]? = some ce → ce.vm = .none → s.vm.findClass E = some ce.cls → vx_W p l e R s m args below meth c H1 locs1 (cells + mc) (slots + ms) Q (F0 m pc ls rest) q9)
    (kk : ∀ (r : Int32) (u : S) (t : State) (H1 : Heap) (locs1 : List Loc), t.heap = H1 → s.vm.Alike t.vm → post r u → B u t → H.size ≤ H1.size → (∀ q : Nat, q < H.size → ¬ A1 q → H1[q]? = H[q]?) → va_S A0 H0 H1 locs1 → W p l e R s m args below meth c H1 locs1 (cells + mc) (slots + ms) Q (F0 m (pc + 3) ls (.int r :: rest))) : W p l e R s m args below meth c H locs cells slots Q (F0 m pc ls st0) := by
  intro T hT X
  rcases hr T hT X with ⟨v, st₀, t, T', L, h0, X', hL, e1, e2, ⟨⟨r, u, hv, hp, hb⟩, hF⟩, st⟩ | ⟨q, st₀, t, T', L, E, ce, h0, X', hL, e1, e2, ⟨u, hp, hb, hF⟩, hce, hcv, hcl, st⟩
  · cases hv
    obtain ⟨k1, k2, k3⟩ := vx_keep h0 e1 hS hA hf hL hF
    obtain ⟨t2, a1, b1⟩ := kk r u t T'.heap (locs ++ L) e1.symm (by rw [← e2]; exact X'.warmed.alike) hp hb k1 k2 k3 T' rfl X'
    exact ⟨t2, st t2 a1, b1⟩
  · obtain ⟨k1, k2, k3⟩ := vx_keep h0 e1 hS hAX hf hL hF
    obtain ⟨t2, a1, b1⟩ := kx E ce q u t T'.heap (locs ++ L) e1.symm (by rw [← e2]; exact X'.warmed.alike) hp hb k1 k2 k3 (by rw [e1]; exact hce) hcv hcl T' rfl X'
    exact ⟨t2, st.trans a1, b1⟩
theorem vx_calll {S SX : Type} {post : Int64 → S → Prop} {px : SX → Prop} {B : S → State → Prop} {BX : String → SX → State → Prop} {AX : Nat → Prop} (hr : vx_Run p l e R s m args below meth c H locs cells slots mc ms (F0 m pc ls st0) rest (va_Ql post B A1 a) (vx_X px BX AX) free) (hS : va_S A0 H0 H locs) (hA : ∀ q, q < H.size → A1 q → A0 q) (hf : ∀ q, free q → A0 q) (hAX : ∀ q, q < H.size → AX q → A0 q)
    (kx : ∀ (E : String) (ce : Cell) (q9 : Addr) (u : SX) (t : State) (H1 : Heap) (locs1 : List Loc), t.heap = H1 → s.vm.Alike t.vm → px u → BX E u t → H.size ≤ H1.size → (∀ q : Nat, q < H.size → ¬ AX q → H1[q]? = H[q]?) → va_S A0 H0 H1 locs1 → H1[q9]? = some ce → ce.vm = .none → s.vm.findClass E = some ce.cls → vx_W p l e R s m args below meth c H1 locs1 (cells + mc) (slots + ms) Q (F0 m pc ls rest) q9)
    (kk : ∀ (r : Int64) (u : S) (t : State) (H1 : Heap) (locs1 : List Loc), t.heap = H1 → s.vm.Alike t.vm → post r u → B u t → H.size ≤ H1.size → (∀ q : Nat, q < H.size → ¬ A1 q → H1[q]? = H[q]?) → va_S A0 H0 H1 locs1 → W p l e R s m args below meth c H1 locs1 (cells + mc) (slots + ms) Q (F0 m (pc + 3) ls (.long r :: rest))) : W p l e R s m args below meth c H locs cells slots Q (F0 m pc ls st0) := by
  intro T hT X
  rcases hr T hT X with ⟨v, st₀, t, T', L, h0, X', hL, e1, e2, ⟨⟨r, u, hv, hp, hb⟩, hF⟩, st⟩ | ⟨q, st₀, t, T', L, E, ce, h0, X', hL, e1, e2, ⟨u, hp, hb, hF⟩, hce, hcv, hcl, st⟩
  · cases hv
    obtain ⟨k1, k2, k3⟩ := vx_keep h0 e1 hS hA hf hL hF
    obtain ⟨t2, a1, b1⟩ := kk r u t T'.heap (locs ++ L) e1.symm (by rw [← e2]; exact X'.warmed.alike) hp hb k1 k2 k3 T' rfl X'
    exact ⟨t2, st t2 a1, b1⟩
  · obtain ⟨k1, k2, k3⟩ := vx_keep h0 e1 hS hAX hf hL hF
    obtain ⟨t2, a1, b1⟩ := kx E ce q u t T'.heap (locs ++ L) e1.symm (by rw [← e2]; exact X'.warmed.alike) hp hb k1 k2 k3 (by rw [e1]; exact hce) hcv hcl T' rfl X'
    exact ⟨t2, st.trans a1, b1⟩
theorem vx_callf {S SX : Type} {post : UInt32 → S → Prop} {px : SX → Prop} {B : S → State → Prop} {BX : String → SX → State → Prop} {AX : Nat → Prop} (hr : vx_Run p l e R s m args below meth c H locs cells slots mc ms (F0 m pc ls st0) rest (va_Qf post B A1 a) (vx_X px BX AX) free) (hS : va_S A0 H0 H locs) (hA : ∀ q, q < H.size → A1 q → A0 q) (hf : ∀ q, free q → A0 q) (hAX : ∀ q, q < H.size → AX q → A0 q)
    (kx : ∀ (E : String) (ce : Cell) (q9 : Addr) (u : SX) (t : State) (H1 : Heap) (locs1 : List Loc), t.heap = H1 → s.vm.Alike t.vm → px u → BX E u t → H.size ≤ H1.size → (∀ q : Nat, q < H.size → ¬ AX q → H1[q]? = H[q]?) → va_S A0 H0 H1 locs1 → H1[q9]? = some ce → ce.vm = .none → s.vm.findClass E = some ce.cls → vx_W p l e R s m args below meth c H1 locs1 (cells + mc) (slots + ms) Q (F0 m pc ls rest) q9)
    (kk : ∀ (r : UInt32) (u : S) (t : State) (H1 : Heap) (locs1 : List Loc), t.heap = H1 → s.vm.Alike t.vm → post r u → B u t → H.size ≤ H1.size → (∀ q : Nat, q < H.size → ¬ A1 q → H1[q]? = H[q]?) → va_S A0 H0 H1 locs1 → W p l e R s m args below meth c H1 locs1 (cells + mc) (slots + ms) Q (F0 m (pc + 3) ls (.float r :: rest))) : W p l e R s m args below meth c H locs cells slots Q (F0 m pc ls st0) := by
  intro T hT X
  rcases hr T hT X with ⟨v, st₀, t, T', L, h0, X', hL, e1, e2, ⟨⟨r, u, hv, hp, hb⟩, hF⟩, st⟩ | ⟨q, st₀, t, T', L, E, ce, h0, X', hL, e1, e2, ⟨u, hp, hb, hF⟩, hce, hcv, hcl, st⟩
  · cases hv
    obtain ⟨k1, k2, k3⟩ := vx_keep h0 e1 hS hA hf hL hF
    obtain ⟨t2, a1, b1⟩ := kk r u t T'.heap (locs ++ L) e1.symm (by rw [← e2]; exact X'.warmed.alike) hp hb k1 k2 k3 T' rfl X'
    exact ⟨t2, st t2 a1, b1⟩
  · obtain ⟨k1, k2, k3⟩ := vx_keep h0 e1 hS hAX hf hL hF
    obtain ⟨t2, a1, b1⟩ := kx E ce q u t T'.heap (locs ++ L) e1.symm (by rw [← e2]; exact X'.warmed.alike) hp hb k1 k2 k3 (by rw [e1]; exact hce) hcv hcl T' rfl X'
    exact ⟨t2, st.trans a1, b1⟩
theorem vx_calld {S SX : Type} {post : UInt64 → S → Prop} {px : SX → Prop} {B : S → State → Prop} {BX : String → SX → State → Prop} {AX : Nat → Prop} (hr : vx_Run p l e R s m args below meth c H locs cells slots mc ms (F0 m pc ls st0) rest (va_Qd post B A1 a) (vx_X px BX AX) free) (hS : va_S A0 H0 H locs) (hA : ∀ q, q < H.size → A1 q → A0 q) (hf : ∀ q, free q → A0 q) (hAX : ∀ q, q < H.size → AX q → A0 q)
    (kx : ∀ (E : String) (ce : Cell) (q9 : Addr) (u : SX) (t : State) (H1 : Heap) (locs1 : List Loc), t.heap = H1 → s.vm.Alike t.vm → px u → BX E u t → H.size ≤ H1.size → (∀ q : Nat, q < H.size → ¬ AX q → H1[q]? = H[q]?) → va_S A0 H0 H1 locs1 → H1[q9]? = some ce → ce.vm = .none → s.vm.findClass E = some ce.cls → vx_W p l e R s m args below meth c H1 locs1 (cells + mc) (slots + ms) Q (F0 m pc ls rest) q9)
    (kk : ∀ (r : UInt64) (u : S) (t : State) (H1 : Heap) (locs1 : List Loc), t.heap = H1 → s.vm.Alike t.vm → post r u → B u t → H.size ≤ H1.size → (∀ q : Nat, q < H.size → ¬ A1 q → H1[q]? = H[q]?) → va_S A0 H0 H1 locs1 → W p l e R s m args below meth c H1 locs1 (cells + mc) (slots + ms) Q (F0 m (pc + 3) ls (.double r :: rest))) : W p l e R s m args below meth c H locs cells slots Q (F0 m pc ls st0) := by
  intro T hT X
  rcases hr T hT X with ⟨v, st₀, t, T', L, h0, X', hL, e1, e2, ⟨⟨r, u, hv, hp, hb⟩, hF⟩, st⟩ | ⟨q, st₀, t, T', L, E, ce, h0, X', hL, e1, e2, ⟨u, hp, hb, hF⟩, hce, hcv, hcl, st⟩
  · cases hv
    obtain ⟨k1, k2, k3⟩ := vx_keep h0 e1 hS hA hf hL hF
    obtain ⟨t2, a1, b1⟩ := kk r u t T'.heap (locs ++ L) e1.symm (by rw [← e2]; exact X'.warmed.alike) hp hb k1 k2 k3 T' rfl X'
    exact ⟨t2, st t2 a1, b1⟩
  · obtain ⟨k1, k2, k3⟩ := vx_keep h0 e1 hS hAX hf hL hF
    obtain ⟨t2, a1, b1⟩ := kx E ce q u t T'.heap (locs ++ L) e1.symm (by rw [← e2]; exact X'.warmed.alike) hp hb k1 k2 k3 (by rw [e1]; exact hce) hcv hcl T' rfl X'
    exact ⟨t2, st.trans a1, b1⟩
theorem vx_callv {S SX : Type} {post : S → Prop} {px : SX → Prop} {B : S → State → Prop} {BX : String → SX → State → Prop} {AX : Nat → Prop} (hr : vx_Run p l e R s m args below meth c H locs cells slots mc ms (F0 m pc ls st0) rest (va_Qv post B A1 a) (vx_X px BX AX) free) (hS : va_S A0 H0 H locs) (hA : ∀ q, q < H.size → A1 q → A0 q) (hf : ∀ q, free q → A0 q) (hAX : ∀ q, q < H.size → AX q → A0 q)
    (kx : ∀ (E : String) (ce : Cell) (q9 : Addr) (u : SX) (t : State) (H1 : Heap) (locs1 : List Loc), t.heap = H1 → s.vm.Alike t.vm → px u → BX E u t → H.size ≤ H1.size → (∀ q : Nat, q < H.size → ¬ AX q → H1[q]? = H[q]?) → va_S A0 H0 H1 locs1 → H1[q9]? = some ce → ce.vm = .none → s.vm.findClass E = some ce.cls → vx_W p l e R s m args below meth c H1 locs1 (cells + mc) (slots + ms) Q (F0 m pc ls rest) q9)
    (kk : ∀ (u : S) (t : State) (H1 : Heap) (locs1 : List Loc), t.heap = H1 → s.vm.Alike t.vm → post u → B u t → H.size ≤ H1.size → (∀ q : Nat, q < H.size → ¬ A1 q → H1[q]? = H[q]?) → va_S A0 H0 H1 locs1 → W p l e R s m args below meth c H1 locs1 (cells + mc) (slots + ms) Q (F0 m (pc + 3) ls (rest))) : W p l e R s m args below meth c H locs cells slots Q (F0 m pc ls st0) := by
  intro T hT X
  rcases hr T hT X with ⟨v, st₀, t, T', L, h0, X', hL, e1, e2, ⟨⟨u, hv, hp, hb⟩, hF⟩, st⟩ | ⟨q, st₀, t, T', L, E, ce, h0, X', hL, e1, e2, ⟨u, hp, hb, hF⟩, hce, hcv, hcl, st⟩
  · cases hv
    obtain ⟨k1, k2, k3⟩ := vx_keep h0 e1 hS hA hf hL hF
    obtain ⟨t2, a1, b1⟩ := kk u t T'.heap (locs ++ L) e1.symm (by rw [← e2]; exact X'.warmed.alike) hp hb k1 k2 k3 T' rfl X'
    exact ⟨t2, st t2 a1, b1⟩
  · obtain ⟨k1, k2, k3⟩ := vx_keep h0 e1 hS hAX hf hL hF
    obtain ⟨t2, a1, b1⟩ := kx E ce q u t T'.heap (locs ++ L) e1.symm (by rw [← e2]; exact X'.warmed.alike) hp hb k1 k2 k3 (by rw [e1]; exact hce) hcv hcl T' rfl X'
    exact ⟨t2, st.trans a1, b1⟩
end Rows
section Ends
variable {p : Program} {l : Launch} {e : Env} {R : Room} {s : State} {m : MethodId} {args : Array Value} {below : List Frame} {meth : Method} {c : Code} {H : Heap} {locs : List Loc} {cells slots : Nat} {Q : State → Prop}
variable {mc ms : Nat} {free : Addr → Prop} {A0 A1 : Nat → Prop} {H0 : Heap} {a : Array Value} {ls : Array Slot} {st0 rest : List Value}
variable {Qc : Array Value → State → Outcome → State → Prop} {XC : String → State → State → Prop}
/-- what a body that may throw owes at its end -/
def vx_MQ (below : List Frame) (Qc : Array Value → State → Outcome → State → Prop) (XC : String → State → State → Prop) (a : Array Value) (s : State) (mc ms : Nat) (free : Addr → Prop) : State → Prop := fun t =>
  ∃ o, t.status = .running ∧ Ended t below o ∧ vx_Q Qc XC mc ms free a s o t
theorem vx_ret {g : JFrame} {mc ms : Nat} (k : W p l e R s m args below meth c H locs cells slots (MQ below Qc args s mc ms free) g) : W p l e R s m args below meth c H locs cells slots (vx_MQ below Qc XC args s mc ms free) g := by
  intro T hT X
  obtain ⟨t, a1, o, b1, b2, b3, b4⟩ := k T hT X
  exact ⟨t, a1, o, b1, b2, Or.inl ⟨b3, b4⟩⟩
/-- not caught here: it goes on to the caller -/
theorem vx_widen {g : JFrame} {q : Addr} {k n : Nat} (h1 : cells ≤ k) (h2 : slots ≤ n) (kk : vx_W p l e R s m args below meth c H locs k n Q g q) : vx_W p l e R s m args below meth c H locs cells slots Q g q := fun T hT X => kk T hT (stand_widen X h1 h2)
theorem vx_out {pc : Nat} {E : String} {ce : Cell} {q : Addr} {mc ms : Nat} (hout : ∀ x ∈ c.exceptionTable.toList, covers x pc = false) (hlocks : meth.locks = false) (hcell : H[q]? = some ce) (hv : ce.vm = .none) (hcl : s.vm.findClass E = some ce.cls)
    (hx : ∀ t : State, t.heap = H → s.vm.Alike t.vm → XC E s t) (hf : ∀ z ∈ locs, free z.base) (hc : cells ≤ mc) (hs : slots ≤ ms) :
    vx_W p l e R s m args below meth c H locs cells slots (vx_MQ below Qc XC args s mc ms free) (F0 m pc ls rest) q := by
  intro T hT X
  obtain ⟨st1, hrun, hend, hW, hsm⟩ := X.leaveThrown q (g := F0 m pc ls rest) rfl rfl rfl hout hlocks
  have hcell9 : (T.setFrames (.throwing q :: below)).heap[q]? = some ce := by
    show T.heap[q]? = some ce
    rw [hT]; exact hcell
  exact ⟨_, st1, .threw q, hrun, hend, Or.inr ⟨q, rfl, E, ce, locs, hx _ hT hW.alike, hcell9, hv, hcl, hW, hsm.mono hc hs, hf⟩⟩
theorem vx_frame {U : State} {k n : Nat} (h : s.sameButNew ({ U with vm := s.vm } : State) locs k n) : s.heap.size ≤ U.heap.size ∧ ∀ q : Nat, q < s.heap.size → (∀ z ∈ locs, z.base ≠ q) → U.heap[q]? = s.heap[q]? := by
  obtain ⟨-, h2, -, -, -, h6⟩ := h
  refine ⟨h2, fun q hq hz => ?_⟩
  obtain ⟨c9, e1, e2, e3, e4⟩ := h6 q _ (Array.getElem?_eq_getElem hq)
  have hs : c9.slots = (s.heap[q]).slots := Array.ext_getElem? fun i => e4 i fun hm => hz _ hm rfl
  have h9 : c9 = s.heap[q] := by
    rw [hs] at e2
    exact e2
  have e5 : U.heap[q]? = some c9 := e1
  rw [e5, h9, Array.getElem?_eq_getElem hq]
/-- the words of a throw but the four that speak of the heap -/
def vx_no (w : Cond) : Bool := decide (w ≠ .isRef (.static Bundle.tN "UNASSIGNED_STACK" Bundle.steD)) && decide (w ≠ .isRef (.static Bundle.tN "SUPPRESSED_SENTINEL" Bundle.listD)) && decide (w ≠ .laysStatic Bundle.tN "UNASSIGNED_STACK" Bundle.steD) && decide (w ≠ .laysStatic Bundle.tN "SUPPRESSED_SENTINEL" Bundle.listD)
def vx_at0 (own : String) (ic : Nat) (X : String) (names : List String) : List Cond := (Bundle.ownAtoms0 own ic X names).filter vx_no
def vx_atS (own : String) (ic : Nat) (X : String) (names : List String) : List Cond := (Bundle.ownAtoms own ic X names).filter vx_no
/-- a word that the tables alone decide, or a good one -/
def vx_ot (w : Cond) : Bool := w.onTables || goodWord w
theorem vx_ot_at {args a' : Array Value} {s U : State} {w : Cond} (hW : s.WarmedH U.vm) (hvm : s.vm = U.vm) (hg : vx_ot w = true) (h : w.before args s = true) : w.before a' U = true := by
  simp only [vx_ot, Bool.or_eq_true] at hg
  rcases hg with hg | hg
  · exact va_tabs hg hvm h
  · exact word_at hW (good_of_word hg) h
/-- a list's words: the good ones out of the method's own list, the others by premises of their own -/
theorem vx_hat {args : Array Value} {s : State} {L B : List Cond} (h1 : ∀ w ∈ L.filter goodWord, w.before args s = true) (h2 : ∀ w ∈ L.filter (fun w => !goodWord w), w ∈ B) (h3 : ∀ w ∈ B, w.before args s = true) : ∀ w ∈ L, w.before args s = true := by
  intro w hw
  by_cases g : goodWord w = true
  · exact h1 w (List.mem_filter.mpr ⟨hw, g⟩)
  · refine h3 w (h2 w (List.mem_filter.mpr ⟨hw, ?_⟩))
    show (!goodWord w) = true
    cases hgw : goodWord w
    · rfl
    · exact absurd hgw g
theorem vx_c {args : Array Value} {s : State} {w : Cond} {B : List Cond} (h : w.before args s = true) (t : ∀ w ∈ B, w.before args s = true) : ∀ w' ∈ w :: B, w'.before args s = true := fun w' h' => (List.mem_cons.mp h').elim (fun e => by rw [e]; exact h) (t w')
theorem vx_n {args : Array Value} {s : State} : ∀ w ∈ ([] : List Cond), w.before args s = true := fun _ h => nomatch h
theorem vx_own {args : Array Value} {s : State} {L : List Cond} (h1 : ∀ w ∈ L.filter vx_no, w.before args s = true)
    (hU : (Cond.isRef (.static Bundle.tN "UNASSIGNED_STACK" Bundle.steD)).before args s = true) (hN : (Cond.isRef (.static Bundle.tN "SUPPRESSED_SENTINEL" Bundle.listD)).before args s = true)
    (lU : (Cond.laysStatic Bundle.tN "UNASSIGNED_STACK" Bundle.steD).before args s = true) (lN : (Cond.laysStatic Bundle.tN "SUPPRESSED_SENTINEL" Bundle.listD).before args s = true) : ∀ w ∈ L, w.before args s = true := by
  intro w hw
  by_cases e1 : w = .isRef (.static Bundle.tN "UNASSIGNED_STACK" Bundle.steD)
  · rw [e1]; exact hU
  · by_cases e2 : w = .isRef (.static Bundle.tN "SUPPRESSED_SENTINEL" Bundle.listD)
    · rw [e2]; exact hN
    · by_cases e3 : w = .laysStatic Bundle.tN "UNASSIGNED_STACK" Bundle.steD
      · rw [e3]; exact lU
      · by_cases e4 : w = .laysStatic Bundle.tN "SUPPRESSED_SENTINEL" Bundle.listD
        · rw [e4]; exact lN
        · exact h1 w (List.mem_filter.mpr ⟨hw, by unfold vx_no; rw [decide_eq_true e1, decide_eq_true e2, decide_eq_true e3, decide_eq_true e4]; rfl⟩)
/-- where a static field lies, its class's statics cell in H -/
def vx_L (C n d : String) (A : Nat → Prop) (U : State) (H : Heap) : Prop := ∃ (c : ClassId) (k : Class) (i : Nat) (f : Field) (a : Nat) (cell : Cell), U.vm.findClass C = some c ∧ U.fieldFound? C n d = some (c, k, i, f) ∧ f.isStatic = true ∧ k.statics = some a ∧ H[a]? = some cell ∧ cell.vm.isStatics = true ∧ cell.cls = c ∧ f.slot < cell.slots.size ∧ k.staticTypes[f.slot]? = some f.type ∧ ¬ A a
theorem vx_L.moved {C n d : String} {A : Nat → Prop} {u U : State} {H : Heap} (hvm : u.vm.Alike U.vm) (h : vx_L C n d A u H) : vx_L C n d A U H := by
  obtain ⟨c, k, i, f, a, cell, h1, h2, h3, h4, h5, h6, h7, h8, h9, h10⟩ := h
  obtain ⟨k', hi', he⟩ := State.fieldFound?_setVm hvm h2
  exact ⟨c, k', i, f, a, cell, by rw [hvm.findClass]; exact h1, hi', h3, by rw [he]; exact h4, h5, h6, h7, h8, by rw [he]; exact h9, h10⟩
theorem vx_L.kept {C n d : String} {A : Nat → Prop} {U : State} {H H1 : Heap} (h : vx_L C n d A U H) (hq : ∀ a : Nat, a < H.size → ¬ A a → H1[a]? = H[a]?) : vx_L C n d A U H1 := by
  obtain ⟨c, k, i, f, a, cell, h1, h2, h3, h4, h5, h6, h7, h8, h9, h10⟩ := h
  exact ⟨c, k, i, f, a, cell, h1, h2, h3, h4, by rw [hq a (Array.getElem?_eq_some_iff.mp h5).1 h10]; exact h5, h6, h7, h8, h9, h10⟩
theorem vx_L.narrow {C n d : String} {A B : Nat → Prop} {U : State} {H : Heap} (h : vx_L C n d A U H) (hAB : ∀ q, B q → A q) : vx_L C n d B U H := by
  obtain ⟨c, k, i, f, a, cell, h1, h2, h3, h4, h5, h6, h7, h8, h9, h10⟩ := h
  exact ⟨c, k, i, f, a, cell, h1, h2, h3, h4, h5, h6, h7, h8, h9, fun z => h10 (hAB _ z)⟩
theorem vx_L.word {C n d : String} {A : Nat → Prop} {s : State} {args : Array Value} (h : vx_L C n d A s s.heap) : (Cond.laysStatic C n d).before args s = true := by
  obtain ⟨c, k, i, f, a, cell, h1, h2, h3, h4, h5, h6, h7, h8, h9, -⟩ := h
  show (Cond.laysStatic C n d).holds args s none s [] = true
  exact Cond.laysStatic_of h1 h2 h3 h4 h5 h6 h7 h8 h9
/-- .. and what it holds: null or some reference -/
def vx_Zq (C n d : String) (A : Nat → Prop) (U : State) (H : Heap) : Prop := va_Zq C n d A U H ∧ vx_L C n d A U H
theorem vx_Zq.moved {C n d : String} {A : Nat → Prop} {u U : State} {H : Heap} (hvm : u.vm.Alike U.vm) (h : vx_Zq C n d A u H) : vx_Zq C n d A U H := ⟨va_Zq.moved hvm h.1, vx_L.moved hvm h.2⟩
theorem vx_Zq.kept {C n d : String} {A : Nat → Prop} {U : State} {H H1 : Heap} (h : vx_Zq C n d A U H) (hq : ∀ a : Nat, a < H.size → ¬ A a → H1[a]? = H[a]?) : vx_Zq C n d A U H1 := ⟨va_Zq.kept h.1 hq, vx_L.kept h.2 hq⟩
theorem vx_Zq.narrow {C n d : String} {A B : Nat → Prop} {U : State} {H : Heap} (h : vx_Zq C n d A U H) (hAB : ∀ q, B q → A q) : vx_Zq C n d B U H := ⟨va_Zq.narrow h.1 hAB, vx_L.narrow h.2 hAB⟩
theorem vx_Zqof {args : Array Value} {s : State} {C n d : String} {A : Nat → Prop} (hl : (Cond.laysStatic C n d).before args s = true) (hini : (Cond.initialized C).before args s = true) (h : (Cond.isRef (.static C n d)).before args s = true) (hA : ∀ a : Nat, a < s.heap.size → ¬ A a) : vx_Zq C n d A s s.heap := by
  refine ⟨va_Zqof hl hini h hA, ?_⟩
  obtain ⟨c, k, i, f, a, cell, h1, h2, h3, h4, h5, h6, h7, h8, h9⟩ := Cond.laysStatic_spec hl
  exact ⟨c, k, i, f, a, cell, h1, h2, h3, h4, h5, h6, h7, h8, h9, hA a (Array.getElem?_eq_some_iff.mp h5).1⟩
theorem vx_isRef {C n d : String} {v : Value} {A : Nat → Prop} {s : State} {args : Array Value} (h : va_Z C n d v A s s.heap) (hv : v.isRef = true) : (Cond.isRef (.static C n d)).before args s = true := by
  obtain ⟨cf, kf, fi, f, a, cell, h1, h2, h3, h4, h5, h6, h7, -⟩ := h
  have he : (Term.static C n d).eval args s none [] s = some v := by
    simp [Term.eval, State.fieldNamed?, h1, h2, h4, h5, h6, h7]
  simp only [Cond.before, Cond.holds, Cond.value, he]
  cases v <;> simp_all [Value.isRef]
theorem vx_isRefq {C n d : String} {A : Nat → Prop} {s : State} {args : Array Value} (h : va_Zq C n d A s s.heap) : (Cond.isRef (.static C n d)).before args s = true := by
  rcases h with h | ⟨t, h⟩
  · exact vx_isRef h rfl
  · exact vx_isRef h rfl
/-- the same frame, seen from here: as if the method were called anew in this heap -/
theorem vx_rebase {T : State} (X : Stand p l e R s m args below meth c T locs cells slots) {R' : Room} (hf : R'.frames ≤ R.frames) (hl : R'.locals ≤ R.locals) (hc : cells + R'.cells ≤ R.cells) (hs : slots + R'.slots ≤ R.slots) :
    Stand p l e R' ((T.setVm s.vm).setFrames (.invoking m args :: below)) m args below meth c T [] 0 0 := by
  have htop : (T.setVm s.vm).topJava?.isSome := X.here.top
  have hF : ((T.setVm s.vm).setFrames (.invoking m args :: below)).frames = .invoking m args :: below := State.frames_setFrames _ (State.cur_lt_of_top htop)
  obtain ⟨g₀, hg0⟩ := Option.isSome_iff_exists.mp htop
  obtain ⟨r, hr⟩ := State.topJava?_eq_some.mp hg0
  have hl9 : e.platform.stackLimits (T.setVm s.vm).me = e.platform.stackLimits s.me := X.limits
  have hb9 : (T.setVm s.vm).me.stackBytes = s.me.stackBytes := X.bytes
  refine ⟨X.admits, X.cas, X.clock, hF, ?_, X.hears, X.method, X.code, X.here, X.tail, X.warmed, ?_, ?_, ?_⟩
  · have h := X.room
    have hU : ((T.setVm s.vm).setFrames (.invoking m args :: below)).localsInUse = s.localsInUse := by
      rw [State.localsInUse_invoking hF (meth := meth) (c := c) X.method X.code, State.localsInUse_invoking X.frames X.method X.code]
    simp only [State.hasRoom, Bool.and_eq_true, decide_eq_true_eq] at h ⊢
    obtain ⟨⟨⟨⟨h1, h2, h3, h4, h5, h6⟩, h7⟩, h8⟩, h9⟩ := h
    rw [X.frames, List.length_cons] at h2 h3
    have q1 := X.heapSize
    have q2 := X.used
    simp only [hF, hU, List.length_cons, State.stackLimits_setFrames, State.stackBytes_setFrames, hl9, hb9]
    refine ⟨⟨⟨⟨by omega, by omega, by omega, by omega, by omega, h6⟩, ?_⟩, ?_⟩, X.book⟩
    · show T.heap.size + R'.cells ≤ e.platform.maxCells
      omega
    · show T.slotsUsed + R'.slots ≤ e.platform.maxSlots
      omega
  · rw [State.stackLimits_setFrames]; rfl
  · rw [State.stackBytes_setFrames]; rfl
  · refine ⟨?_, Nat.le_refl _, Nat.le_refl _, ?_, ?_, fun a c9 h9 => ⟨c9, h9, rfl, rfl, fun _ _ => rfl⟩⟩
    · obtain ⟨t, ht, -⟩ := State.frames_cons hr
      show T.setVm s.vm = { ((T.setVm s.vm).setFrames (.invoking m args :: below)).setFrames (T.setVm s.vm).frames with heap := T.heap, slotsUsed := T.slotsUsed }
      rw [State.setFrames_setFrames, State.setFrames_self ht]
      rfl
    · show T.slotsUsed = T.slotsUsed + ((T.heap.toList.drop T.heap.size).map (·.slots.size)).sum
      rw [List.drop_eq_nil_of_le (Nat.le_of_eq Array.length_toList)]
      rfl
    · show ((T.heap.toList.drop T.heap.size).map (·.slots.size)).sum ≤ 0
      rw [List.drop_eq_nil_of_le (Nat.le_of_eq Array.length_toList)]
      exact Nat.le_refl _
/-- 'throw new E()': new; dup; invokespecial; athrow -/
theorem vx_throw0 {cc : ByteArray} {pc : Nat} (hexec : p.tables.exec = Jvm.exec) (hb : c.code = cc) (hl : l.stackTraces = false) {own cls : String} {names : List String} {ik ic mc ms : Nat} {A : Nat → Prop}
    (hown : s.vm.findClass own = some m.cls) (hcls : Bundle.fit cls = true) (hnames : ∀ n ∈ names, Bundle.fit n = true)
    (hk : (Cond.classLink own ik cls).before args s = true) (hini : (Cond.initialized cls).before args s = true) (hat : ∀ w ∈ vx_at0 own ic cls names, w.before args s = true)
    (hgood : ∀ w ∈ Cond.classLink own ik cls :: Cond.initialized cls :: vx_at0 own ic cls names, vx_ot w = true)
    (hU : vx_Zq Bundle.tN "UNASSIGNED_STACK" Bundle.steD A s s.heap) (hN : vx_Zq Bundle.tN "SUPPRESSED_SENTINEL" Bundle.listD A s s.heap) (hS : va_S A s.heap H locs) (hsize : ls.size = c.maxLocals)
    (d0 : decode cc pc = .ok (.new ik, 3)) (d3 : decode cc (pc + 3) = .ok (.dup, 1)) (d4 : decode cc (pc + 4) = .ok (.invokespecial ic, 3)) (d7 : decode cc (pc + 7) = .ok (.athrow, 1))
    (hout : ∀ x ∈ c.exceptionTable.toList, covers x (pc + 7) = false)
    (hRframes : names.length + 3 < R.frames) (hRlocals : (rest.map fun v => v.category).sum + (13 * (names.length + 1) + 42) ≤ R.locals) (hRcells : cells + 1 ≤ R.cells) (hRslots : slots + 6 ≤ R.slots) (hlocks : meth.locks = false)
    (hx : ∀ t : State, s.vm.Alike t.vm → H.size ≤ t.heap.size → (∀ q : Nat, q < H.size → t.heap[q]? = H[q]?) → XC cls s t)
    (hf : ∀ z ∈ locs, free z.base) (hc : cells + 1 ≤ mc) (hs : slots + 6 ≤ ms) :
    W p l e R s m args below meth c H locs cells slots (vx_MQ below Qc XC args s mc ms free) (F0 m pc ls rest) := by
  intro T hT X
  have htr : e.platform.stackTraces = false := (show e.platform.stackTraces = l.stackTraces by rw [X.admits.platform]).trans hl
  have Y := vx_rebase X (R' := { frames := R.frames, locals := R.locals, cells := 1, slots := 6 }) (Nat.le_refl _) (Nat.le_refl _) hRcells hRslots
  obtain ⟨s', hA⟩ : ∃ z, z = (T.setVm s.vm).setFrames (.invoking m args :: below) := ⟨_, rfl⟩
  rw [← hA] at Y
  have hvm : s'.vm = s.vm := by rw [hA]; rfl
  have hhp : s'.heap = H := by rw [hA]; exact hT
  have hW0 : s.WarmedH s'.vm := by rw [hvm]; exact State.WarmedH.refl s
  have hat' : ∀ w ∈ vx_at0 own ic cls names, w.before args s' = true := fun w hw => vx_ot_at hW0 hvm.symm (hgood w (List.mem_cons_of_mem _ (List.mem_cons_of_mem _ hw))) (hat w hw)
  have hk' : (Cond.classLink own ik cls).before args s' = true := vx_ot_at hW0 hvm.symm (hgood _ List.mem_cons_self) hk
  have hini' : (Cond.initialized cls).before args s' = true := vx_ot_at hW0 hvm.symm (hgood _ (List.mem_cons_of_mem _ List.mem_cons_self)) hini
  have hU' : vx_Zq Bundle.tN "UNASSIGNED_STACK" Bundle.steD A s' s'.heap := by rw [hhp]; exact vx_Zq.moved hW0.alike (hU.kept hS.2.1)
  have hN' : vx_Zq Bundle.tN "SUPPRESSED_SENTINEL" Bundle.listD A s' s'.heap := by rw [hhp]; exact vx_Zq.moved hW0.alike (hN.kept hS.2.1)
  have h : ∀ w ∈ Bundle.ownAtoms0 own ic cls names, w.before args s' = true := vx_own hat' (vx_isRefq hU'.1) (vx_isRefq hN'.1) hU'.2.word hN'.2.word
  have hown' : s'.vm.findClass own = some m.cls := by rw [hvm]; exact hown
  have hins : (Cond.instantiable cls 6).before args s' = true := h _ (by simp [Bundle.ownAtoms0])
  obtain ⟨vm₁, cX, kX, hfX, hkX, -, -, X₁, st1⟩ := Y.newCold hexec (own := own) (C := cls) (index := ik) (n := 6) hown' hk' hins hini'
    (g := F0 m pc ls rest) rfl (by rw [hb]; exact d0) (Nat.le_refl _) (Nat.le_refl _)
  generalize hT1 : (T.setVm vm₁).pushCell { cls := cX, slots := kX.instanceTypes.map defaultValue, vm := .none } = T1 at X₁ st1
  have hcat : (Value.ref T.heap.size).category = 1 := rfl
  have hcellA : T1.heap[T.heap.size]? = some (freshCell cX kX) := by rw [← hT1]; exact State.heap_pushCell_size _ _
  have d3' : decode c.code (pc + 3) = .ok (.dup, 1) := by rw [hb]; exact d3
  obtain ⟨U, hsteps, hrun, hend, hW, hsame, ce, hce, hO⟩ := X₁.ctorThrow0 hexec htr (own := own) (cls := cls) (names := names) (ic := ic) hown' hcls hnames h (fun x hx => nomatch hx) hfX hkX hcellA (by rw [hhp, hT]; exact Nat.le_refl _)
    (g := { method := m, pc := pc + 4, locals := ls, stack := .ref T.heap.size :: .ref T.heap.size :: rest, locked := none }) rfl hsize rfl rfl (rest := rest) rfl
    (by rw [hb]; exact d4) (by rw [hb]; exact d7) hout hRframes (by simp only [List.map_cons, List.sum_cons, hcat]; omega) hlocks
  obtain ⟨f1, f2⟩ := vx_frame hsame
  rw [hhp] at f1 f2
  have hWs : s.WarmedH U.vm := State.WarmedH.trans hW0 hW
  have hcl : s.vm.findClass cls = some ce.cls := by
    have h9 := hO.cls
    rw [hvm] at h9
    exact h9
  have hall : s.sameButNew ({ U with vm := s.vm } : State) locs mc ms := by
    subst hA
    obtain ⟨e1, e2⟩ := hsame
    rw [State.setFrames_setFrames] at e1
    have h2 : (T.setVm s.vm).sameButNew ({ U with vm := s.vm } : State) [] (0 + 1) (0 + 6) := ⟨e1, e2⟩
    have h3 := X.same.trans h2
    rw [List.append_nil] at h3
    exact h3.mono hc hs
  refine ⟨U, ?_, .threw T.heap.size, hrun, hend, Or.inr ⟨T.heap.size, rfl, cls, ce, locs, hx U hWs.alike f1 (fun q hq => f2 q hq (fun z hz => nomatch hz)), hce, hO.vm, hcl, hWs, hall, hf⟩⟩
  refine st1 _ ?_
  show Steps p.tables e below (T1.setTop { method := m, pc := pc + 3, locals := ls, stack := .ref T.heap.size :: rest, locked := none }) _
  jvm_step X₁.here [X₁.here.top, hexec, d3', Value.category]
  exact hsteps
/-- 'throw new E("text")': new; dup; ldc; invokespecial; athrow -/
theorem vx_throwS {cc : ByteArray} {pc : Nat} (hexec : p.tables.exec = Jvm.exec) (hb : c.code = cc) (hl : l.stackTraces = false) {own cls text : String} {names : List String} {ik is ic mc ms sa : Nat} {A : Nat → Prop}
    (hown : s.vm.findClass own = some m.cls) (hcls : Bundle.fit cls = true) (hnames : ∀ n ∈ names, Bundle.fit n = true)
    (hk : (Cond.classLink own ik cls).before args s = true) (hini : (Cond.initialized cls).before args s = true) (hstr : vk_R own is text sa s) (hat : ∀ w ∈ vx_atS own ic cls names, w.before args s = true)
    (hgood : ∀ w ∈ Cond.classLink own ik cls :: Cond.initialized cls :: vx_atS own ic cls names, vx_ot w = true)
    (hU : vx_Zq Bundle.tN "UNASSIGNED_STACK" Bundle.steD A s s.heap) (hN : vx_Zq Bundle.tN "SUPPRESSED_SENTINEL" Bundle.listD A s s.heap) (hS : va_S A s.heap H locs) (hsize : ls.size = c.maxLocals)
    (d0 : decode cc pc = .ok (.new ik, 3)) (d3 : decode cc (pc + 3) = .ok (.dup, 1)) (d4 : decode cc (pc + 4) = .ok (.ldc is, 2)) (d6 : decode cc (pc + 6) = .ok (.invokespecial ic, 3)) (d9 : decode cc (pc + 9) = .ok (.athrow, 1))
    (hout : ∀ x ∈ c.exceptionTable.toList, covers x (pc + 9) = false)
    (hRframes : names.length + 3 < R.frames) (hRlocals : (rest.map fun v => v.category).sum + (13 * (names.length + 1) + 43) ≤ R.locals) (hRcells : cells + 1 ≤ R.cells) (hRslots : slots + 6 ≤ R.slots) (hlocks : meth.locks = false)
    (hx : ∀ t : State, s.vm.Alike t.vm → H.size ≤ t.heap.size → (∀ q : Nat, q < H.size → t.heap[q]? = H[q]?) → XC cls s t)
    (hf : ∀ z ∈ locs, free z.base) (hc : cells + 1 ≤ mc) (hs : slots + 6 ≤ ms) :
    W p l e R s m args below meth c H locs cells slots (vx_MQ below Qc XC args s mc ms free) (F0 m pc ls rest) := by
  intro T hT X
  have htr : e.platform.stackTraces = false := (show e.platform.stackTraces = l.stackTraces by rw [X.admits.platform]).trans hl
  have Y := vx_rebase X (R' := { frames := R.frames, locals := R.locals, cells := 1, slots := 6 }) (Nat.le_refl _) (Nat.le_refl _) hRcells hRslots
  obtain ⟨s', hA⟩ : ∃ z, z = (T.setVm s.vm).setFrames (.invoking m args :: below) := ⟨_, rfl⟩
  rw [← hA] at Y
  have hvm : s'.vm = s.vm := by rw [hA]; rfl
  have hhp : s'.heap = H := by rw [hA]; exact hT
  have hW0 : s.WarmedH s'.vm := by rw [hvm]; exact State.WarmedH.refl s
  have hat' : ∀ w ∈ vx_atS own ic cls names, w.before args s' = true := fun w hw => vx_ot_at hW0 hvm.symm (hgood w (List.mem_cons_of_mem _ (List.mem_cons_of_mem _ hw))) (hat w hw)
  have hk' : (Cond.classLink own ik cls).before args s' = true := vx_ot_at hW0 hvm.symm (hgood _ List.mem_cons_self) hk
  have hini' : (Cond.initialized cls).before args s' = true := vx_ot_at hW0 hvm.symm (hgood _ (List.mem_cons_of_mem _ List.mem_cons_self)) hini
  have hU' : vx_Zq Bundle.tN "UNASSIGNED_STACK" Bundle.steD A s' s'.heap := by rw [hhp]; exact vx_Zq.moved hW0.alike (hU.kept hS.2.1)
  have hN' : vx_Zq Bundle.tN "SUPPRESSED_SENTINEL" Bundle.listD A s' s'.heap := by rw [hhp]; exact vx_Zq.moved hW0.alike (hN.kept hS.2.1)
  have h : ∀ w ∈ Bundle.ownAtoms own ic cls names, w.before args s' = true := vx_own hat' (vx_isRefq hU'.1) (vx_isRefq hN'.1) hU'.2.word hN'.2.word
  have hown' : s'.vm.findClass own = some m.cls := by rw [hvm]; exact hown
  have hins : (Cond.instantiable cls 6).before args s' = true := h _ (by simp [Bundle.ownAtoms])
  obtain ⟨vm₁, cX, kX, hfX, hkX, -, -, X₁, st1⟩ := Y.newCold hexec (own := own) (C := cls) (index := ik) (n := 6) hown' hk' hins hini'
    (g := F0 m pc ls rest) rfl (by rw [hb]; exact d0) (Nat.le_refl _) (Nat.le_refl _)
  generalize hT1 : (T.setVm vm₁).pushCell { cls := cX, slots := kX.instanceTypes.map defaultValue, vm := .none } = T1 at X₁ st1
  have hcat : (Value.ref T.heap.size).category = 1 := rfl
  have hcellA : T1.heap[T.heap.size]? = some (freshCell cX kX) := by rw [← hT1]; exact State.heap_pushCell_size _ _
  have d3' : decode c.code (pc + 3) = .ok (.dup, 1) := by rw [hb]; exact d3
  have d4' : decode c.code (pc + 4) = .ok (.ldc is, 2) := by rw [hb]; exact d4
  have hstr' : vk_R own is text sa s' := vk_R.warm hW0 hstr
  obtain ⟨U, hsteps, hrun, hend, hW, hsame, ce, hce, hO⟩ := X₁.ctorThrowS hexec htr (own := own) (cls := cls) (names := names) (ic := ic) hown' hcls hnames h (fun x hx => nomatch hx) hfX hkX hcellA (by rw [hhp, hT]; exact Nat.le_refl _) (msg := .ref sa) rfl
    (g := { method := m, pc := pc + 6, locals := ls, stack := .ref sa :: .ref T.heap.size :: .ref T.heap.size :: rest, locked := none }) rfl hsize rfl rfl (rest := rest) rfl
    (by rw [hb]; exact d6) (by rw [hb]; exact d9) hout hRframes (by simp only [List.map_cons, List.sum_cons, hcat]; omega) hlocks
  obtain ⟨f1, f2⟩ := vx_frame hsame
  rw [hhp] at f1 f2
  have hWs : s.WarmedH U.vm := State.WarmedH.trans hW0 hW
  have hcl : s.vm.findClass cls = some ce.cls := by
    have h9 := hO.cls
    rw [hvm] at h9
    exact h9
  have hall : s.sameButNew ({ U with vm := s.vm } : State) locs mc ms := by
    subst hA
    obtain ⟨e1, e2⟩ := hsame
    rw [State.setFrames_setFrames] at e1
    have h2 : (T.setVm s.vm).sameButNew ({ U with vm := s.vm } : State) [] (0 + 1) (0 + 6) := ⟨e1, e2⟩
    have h3 := X.same.trans h2
    rw [List.append_nil] at h3
    exact h3.mono hc hs
  refine ⟨U, ?_, .threw T.heap.size, hrun, hend, Or.inr ⟨T.heap.size, rfl, cls, ce, locs, hx U hWs.alike f1 (fun q hq => f2 q hq (fun z hz => nomatch hz)), hce, hO.vm, hcl, hWs, hall, hf⟩⟩
  refine st1 _ ?_
  show Steps p.tables e below (T1.setTop { method := m, pc := pc + 3, locals := ls, stack := .ref T.heap.size :: rest, locked := none }) _
  jvm_step X₁.here [X₁.here.top, hexec, d3', Value.category]
  exact X₁.ldcString hexec (own := own) (text := text) (index := is) (a := sa) hown' hstr'.1 hstr'.2
    (g := { method := m, pc := pc + 4, locals := ls, stack := .ref T.heap.size :: .ref T.heap.size :: rest, locked := none }) rfl d4' _ hsteps
/-- 'throw new E("text")', the text by a wide index -/
theorem vx_throwSW {cc : ByteArray} {pc : Nat} (hexec : p.tables.exec = Jvm.exec) (hb : c.code = cc) (hl : l.stackTraces = false) {own cls text : String} {names : List String} {ik is ic mc ms sa : Nat} {A : Nat → Prop}
    (hown : s.vm.findClass own = some m.cls) (hcls : Bundle.fit cls = true) (hnames : ∀ n ∈ names, Bundle.fit n = true)
    (hk : (Cond.classLink own ik cls).before args s = true) (hini : (Cond.initialized cls).before args s = true) (hstr : vk_R own is text sa s) (hat : ∀ w ∈ vx_atS own ic cls names, w.before args s = true)
    (hgood : ∀ w ∈ Cond.classLink own ik cls :: Cond.initialized cls :: vx_atS own ic cls names, vx_ot w = true)
    (hU : vx_Zq Bundle.tN "UNASSIGNED_STACK" Bundle.steD A s s.heap) (hN : vx_Zq Bundle.tN "SUPPRESSED_SENTINEL" Bundle.listD A s s.heap) (hS : va_S A s.heap H locs) (hsize : ls.size = c.maxLocals)
    (d0 : decode cc pc = .ok (.new ik, 3)) (d3 : decode cc (pc + 3) = .ok (.dup, 1)) (d4 : decode cc (pc + 4) = .ok (.ldc_w is, 3)) (d7 : decode cc (pc + 7) = .ok (.invokespecial ic, 3)) (d10 : decode cc (pc + 10) = .ok (.athrow, 1))
    (hout : ∀ x ∈ c.exceptionTable.toList, covers x (pc + 10) = false)
    (hRframes : names.length + 3 < R.frames) (hRlocals : (rest.map fun v => v.category).sum + (13 * (names.length + 1) + 43) ≤ R.locals) (hRcells : cells + 1 ≤ R.cells) (hRslots : slots + 6 ≤ R.slots) (hlocks : meth.locks = false)
    (hx : ∀ t : State, s.vm.Alike t.vm → H.size ≤ t.heap.size → (∀ q : Nat, q < H.size → t.heap[q]? = H[q]?) → XC cls s t)
    (hf : ∀ z ∈ locs, free z.base) (hc : cells + 1 ≤ mc) (hs : slots + 6 ≤ ms) :
    W p l e R s m args below meth c H locs cells slots (vx_MQ below Qc XC args s mc ms free) (F0 m pc ls rest) := by
  intro T hT X
  have htr : e.platform.stackTraces = false := (show e.platform.stackTraces = l.stackTraces by rw [X.admits.platform]).trans hl
  have Y := vx_rebase X (R' := { frames := R.frames, locals := R.locals, cells := 1, slots := 6 }) (Nat.le_refl _) (Nat.le_refl _) hRcells hRslots
  obtain ⟨s', hA⟩ : ∃ z, z = (T.setVm s.vm).setFrames (.invoking m args :: below) := ⟨_, rfl⟩
  rw [← hA] at Y
  have hvm : s'.vm = s.vm := by rw [hA]; rfl
  have hhp : s'.heap = H := by rw [hA]; exact hT
  have hW0 : s.WarmedH s'.vm := by rw [hvm]; exact State.WarmedH.refl s
  have hat' : ∀ w ∈ vx_atS own ic cls names, w.before args s' = true := fun w hw => vx_ot_at hW0 hvm.symm (hgood w (List.mem_cons_of_mem _ (List.mem_cons_of_mem _ hw))) (hat w hw)
  have hk' : (Cond.classLink own ik cls).before args s' = true := vx_ot_at hW0 hvm.symm (hgood _ List.mem_cons_self) hk
  have hini' : (Cond.initialized cls).before args s' = true := vx_ot_at hW0 hvm.symm (hgood _ (List.mem_cons_of_mem _ List.mem_cons_self)) hini
  have hU' : vx_Zq Bundle.tN "UNASSIGNED_STACK" Bundle.steD A s' s'.heap := by rw [hhp]; exact vx_Zq.moved hW0.alike (hU.kept hS.2.1)
  have hN' : vx_Zq Bundle.tN "SUPPRESSED_SENTINEL" Bundle.listD A s' s'.heap := by rw [hhp]; exact vx_Zq.moved hW0.alike (hN.kept hS.2.1)
  have h : ∀ w ∈ Bundle.ownAtoms own ic cls names, w.before args s' = true := vx_own hat' (vx_isRefq hU'.1) (vx_isRefq hN'.1) hU'.2.word hN'.2.word
  have hown' : s'.vm.findClass own = some m.cls := by rw [hvm]; exact hown
  have hins : (Cond.instantiable cls 6).before args s' = true := h _ (by simp [Bundle.ownAtoms])
  obtain ⟨vm₁, cX, kX, hfX, hkX, -, -, X₁, st1⟩ := Y.newCold hexec (own := own) (C := cls) (index := ik) (n := 6) hown' hk' hins hini'
    (g := F0 m pc ls rest) rfl (by rw [hb]; exact d0) (Nat.le_refl _) (Nat.le_refl _)
  generalize hT1 : (T.setVm vm₁).pushCell { cls := cX, slots := kX.instanceTypes.map defaultValue, vm := .none } = T1 at X₁ st1
  have hcat : (Value.ref T.heap.size).category = 1 := rfl
  have hcellA : T1.heap[T.heap.size]? = some (freshCell cX kX) := by rw [← hT1]; exact State.heap_pushCell_size _ _
  have d3' : decode c.code (pc + 3) = .ok (.dup, 1) := by rw [hb]; exact d3
  have d4' : decode c.code (pc + 4) = .ok (.ldc_w is, 3) := by rw [hb]; exact d4
  have hstr' : vk_R own is text sa s' := vk_R.warm hW0 hstr
  obtain ⟨U, hsteps, hrun, hend, hW, hsame, ce, hce, hO⟩ := X₁.ctorThrowS hexec htr (own := own) (cls := cls) (names := names) (ic := ic) hown' hcls hnames h (fun x hx => nomatch hx) hfX hkX hcellA (by rw [hhp, hT]; exact Nat.le_refl _) (msg := .ref sa) rfl
    (g := { method := m, pc := pc + 7, locals := ls, stack := .ref sa :: .ref T.heap.size :: .ref T.heap.size :: rest, locked := none }) rfl hsize rfl rfl (rest := rest) rfl
    (by rw [hb]; exact d7) (by rw [hb]; exact d10) hout hRframes (by simp only [List.map_cons, List.sum_cons, hcat]; omega) hlocks
  obtain ⟨f1, f2⟩ := vx_frame hsame
  rw [hhp] at f1 f2
  have hWs : s.WarmedH U.vm := State.WarmedH.trans hW0 hW
  have hcl : s.vm.findClass cls = some ce.cls := by
    have h9 := hO.cls
    rw [hvm] at h9
    exact h9
  have hall : s.sameButNew ({ U with vm := s.vm } : State) locs mc ms := by
    subst hA
    obtain ⟨e1, e2⟩ := hsame
    rw [State.setFrames_setFrames] at e1
    have h2 : (T.setVm s.vm).sameButNew ({ U with vm := s.vm } : State) [] (0 + 1) (0 + 6) := ⟨e1, e2⟩
    have h3 := X.same.trans h2
    rw [List.append_nil] at h3
    exact h3.mono hc hs
  refine ⟨U, ?_, .threw T.heap.size, hrun, hend, Or.inr ⟨T.heap.size, rfl, cls, ce, locs, hx U hWs.alike f1 (fun q hq => f2 q hq (fun z hz => nomatch hz)), hce, hO.vm, hcl, hWs, hall, hf⟩⟩
  refine st1 _ ?_
  show Steps p.tables e below (T1.setTop { method := m, pc := pc + 3, locals := ls, stack := .ref T.heap.size :: rest, locked := none }) _
  jvm_step X₁.here [X₁.here.top, hexec, d3', Value.category]
  exact X₁.ldcStringW hexec (own := own) (text := text) (index := is) (a := sa) hown' hstr'.1 hstr'.2
    (g := { method := m, pc := pc + 4, locals := ls, stack := .ref T.heap.size :: .ref T.heap.size :: rest, locked := none }) rfl d4' _ hsteps
end Ends
section Bodies
variable {l : Launch}
theorem vx_ofW {y : MethodName} {ws ws' : List Cond} {rm : Room} {Pc : Array Value → State → Prop} {Qc : Array Value → State → Outcome → State → Prop} {XC : String → State → State → Prop} {mc ms : Nat} {free : Addr → Prop} {cc : ByteArray} {maxL : Nat} {ret : Option FieldType}
    (hy : plainName y.cls = true) (hw : ws = Cond.code y cc maxL ret :: ws')
    (body : ∀ p e s m args below meth c s₁, BodyLoose p l y (headSpec ws rm) cc maxL ret e s m args below meth c s₁ → c.maxLocals = maxL → (∀ x ∈ c.exceptionTable.toList, False) → Pc args s →
      W p l e (headSpec ws rm).room s m args below meth c s.heap [] 0 0 (vx_MQ below Qc XC args s mc ms free) (entryFrame m args maxL)) : vx_Met l y ws rm Pc Qc XC mc ms free := by
  refine MetFree.of_bodyS (code := cc) (maxLocals := maxL) (ret := ret) hy ?_ ?_
  · intro args s m h hn
    obtain ⟨meth, c, h1, h2, h3, h4, h5, h6, -, -⟩ := Cond.code_spec hn (atoms_spec (ws := ws) h _ (by rw [hw]; exact List.mem_cons_self))
    exact ⟨meth, c, h1, h2, h3, h4, h5, h6⟩
  · intro p e s m args below meth c s₁ B hml hP _
    have hh0 : s₁.heap = s.heap := by rw [B.state]; rfl
    have ht : ∀ x ∈ c.exceptionTable.toList, False := by
      obtain ⟨meth9, c9, h1, h2, -, -, -, -, h7, -⟩ := Cond.code_spec B.named (atoms_spec (ws := ws) B.pre _ (by rw [hw]; exact List.mem_cons_self))
      cases Option.some.inj (h1.symm.trans B.method)
      cases Option.some.inj (h2.symm.trans (Stand.of_body B).code)
      intro x hx
      rw [Array.isEmpty_iff.mp h7] at hx
      cases hx
    obtain ⟨t, a1, o, b1, b2, b3⟩ := body p e s m args below meth c s₁ B hml ht hP s₁ hh0 (Stand.of_body B)
    exact ⟨t, o, a1, b1, b2, b3⟩
/-- the table of a body with handlers -/
theorem vx_table {p : Program} {x y : MethodName} {S : Spec} {cc bytes : ByteArray} {maxL maxL' : Nat} {ret ret' : Option FieldType} {e : Env} {s s₁ : State} {m : MethodId} {args : Array Value} {below : List Frame} {meth : Method} {c : Code} {hh : List (Nat × Nat × Nat × Nat)}
    (B : BodyLoose p l y S cc maxL ret e s m args below meth c s₁) (h : (Cond.codeWith y bytes maxL' ret' hh).before args s = true) : c.exceptionTable.toList = tableOf hh := by
  obtain ⟨m9, meth9, c9, hn9, h1, h2, -, -, h6, -⟩ := Cond.codeWith_spec h
  cases Option.some.inj (hn9.symm.trans B.named)
  cases Option.some.inj (h1.symm.trans B.method)
  cases Option.some.inj (h2.symm.trans (Stand.of_body B).code)
  rw [← h6, table_eq]
end Bodies
end VXA
/-! ===== END ===== -/
/-! ===== BEGIN a static call of a method with an exception table ===== -/
section VXS
variable {p : Program} {l : Launch} {e : Env} {R : Room} {s : State} {m : MethodId} {args : Array Value} {below : List Frame} {meth : Method} {c : Code} {T : State} {H : Heap} {locs : List Loc} {cells slots : Nat}
abbrev vx_CSW (R : Room) (s : State) (args : Array Value) (own : String) (index : Nat) (y : MethodName) (bytes : ByteArray) (maxL : Nat) (ret : Option FieldType) (hh : List (Nat × Nat × Nat × Nat)) (ws : List Cond) (rm : Room) (mc ms n : Nat) : Prop :=
  (rm.cells = mc ∧ rm.slots = ms ∧ rm.frames + 1 ≤ R.frames ∧ 8 + (maxL + 11) + rm.locals ≤ R.locals ∧ (∀ w ∈ ws, ∀ (a' : Array Value) (U : State), s.WarmedH U.vm → w.before a' U = true) ∧ Cond.codeWith y bytes maxL ret hh ∈ ws) ∧
  (Cond.codeWith y bytes maxL ret hh).before args s = true ∧ (Cond.initialized y.cls).before args s = true ∧ (y.cls ≠ "java/lang/invoke/MethodHandle" ∧ y.cls ≠ "java/lang/invoke/VarHandle") ∧
  (∀ sig, parseMethodDescriptor y.desc = some sig → n = sig.parameters.length) ∧ (Cond.methodLink own index y).before args s = true ∧ (Cond.static y).before args s = true
theorem vx_cwSW {own : String} {index maxL mc ms : Nat} {y : MethodName} {bytes : ByteArray} {ret : Option FieldType} {hh : List (Nat × Nat × Nat × Nat)} {Ts ws ws' : List Cond} {rm : Room} (n : Nat) (ht : ∀ w ∈ Ts, w.before args s = true) (hT : GoodIn Ts (va_wsS own index y ws)) (hw : ws = Cond.codeWith y bytes maxL ret hh :: ws') (hrc : rm.cells = mc) (hrs : rm.slots = ms)
    (hd : y.cls ≠ "java/lang/invoke/MethodHandle" ∧ y.cls ≠ "java/lang/invoke/VarHandle" ∧ (parseMethodDescriptor y.desc).map (fun d => d.parameters.length) = some n) (hR : rm.frames + 1 ≤ R.frames ∧ 8 + (maxL + 11) + rm.locals ≤ R.locals) :
    vx_CSW R s args own index y bytes maxL ret hh ws rm mc ms n := by
  have ok : ∀ w ∈ va_wsS own index y ws, w.before args s = true := fun w h => ht w (hT w h).1
  have hG : GoodIn Ts ws := fun w h => hT w (by unfold va_wsS; exact List.mem_append_right _ h)
  have hc : Cond.codeWith y bytes maxL ret hh ∈ ws := by rw [hw]; exact List.mem_cons_self
  refine ⟨⟨hrc, hrs, hR.1, hR.2, pay_in ht hG, hc⟩, ht _ (hG _ hc).1, ok _ (by simp [va_wsS]), ⟨hd.1, hd.2.1⟩, fun sig h => ?_, ok _ (by simp [va_wsS]), ok _ (by simp [va_wsS])⟩
  have h2 := hd.2.2
  rw [h] at h2
  exact (Option.some.inj h2).symm
theorem vx_callSW (X : Stand p l e R s m args below meth c T locs cells slots) (hexec : p.tables.exec = Jvm.exec) {own : String} {index : Nat} {y : MethodName} {bytes : ByteArray} {maxL : Nat} {ret : Option FieldType} {hh : List (Nat × Nat × Nat × Nat)}
    (hown : s.vm.findClass own = some m.cls) (hlink : (Cond.methodLink own index y).before args s = true) (hstat : (Cond.static y).before args s = true) (hinit : (Cond.initialized y.cls).before args s = true)
    (hcode : (Cond.codeWith y bytes maxL ret hh).before args s = true) (hy : y.cls ≠ "java/lang/invoke/MethodHandle" ∧ y.cls ≠ "java/lang/invoke/VarHandle")
    {W9 : Nat} {Pre : Pt → Array Value → Prop} {Post : Pt → Array Value → Option Value → Pt → Prop} (hK : Back l R p e below s args y 3 W9 Pre Post)
    {g : JFrame} (hg : g.method = m) (hsize : g.locals.size = c.maxLocals) {argsL rest : List Value} (hlen : ∀ sig, parseMethodDescriptor y.desc = some sig → argsL.length = sig.parameters.length)
    (hstack : g.stack = argsL.reverse ++ rest) (hW : 2 * g.monitorRoom + (rest.map fun v => v.category).sum ≤ W9) (hdg : decode c.code g.pc = .ok (.invokestatic index, 3))
    (hpre : ∀ vm₁, s.WarmedH vm₁ → Pre ⟨T.setVm vm₁, locs, cells, slots⟩ argsL.toArray) :
    ∃ (v : Option Value) (vm₁ : Vm) (B : Pt), s.WarmedH vm₁ ∧ Stand p l e R s m args below meth c B.U B.locs B.cells B.slots ∧ Post ⟨T.setVm vm₁, locs, cells, slots⟩ argsL.toArray v B ∧
      ∀ target, Steps p.tables e below (B.U.setTop { g with pc := g.pc + 3, stack := v.toList ++ rest }) target → Steps p.tables e below (T.setTop g) target := by
  obtain ⟨mk, methM, cM, hnamed, hmethM, -, -, -, -, -, -, hsigM⟩ := Cond.codeWith_spec hcode
  have hstatic : methM.isStatic = true := Cond.static_spec hnamed hmethM hstat
  obtain ⟨kP, hkP, -⟩ := className_of_methodNamed hnamed
  have hinitP : kP.init = .initialized := Cond.initialized_spec (findClass_of_methodNamed hnamed) hkP hinit
  obtain ⟨vm₁, X₁, hstep₁⟩ := X.invokestatic hexec hown hlink hnamed hmethM hstatic hkP hinitP hy (g := g) hg (argsL := argsL) (rest := rest) (hlen _ hsigM) hstack hdg
  obtain ⟨v, B, X', hpost, hsteps⟩ := hK m meth c ⟨T.setVm vm₁, locs, cells, slots⟩ { g with stack := rest } (.invokestatic index) mk argsL.toArray X₁ hg hsize hdg hW (X₁.named hnamed) (hpre vm₁ X₁.warmed)
  exact ⟨v, vm₁, B, X₁.warmed, X', hpost, fun target h => hstep₁ _ fun acts => by rw [doInvoke_state]; exact hsteps.trans h⟩
theorem vx_runSW {y : MethodName} {bytes cc : ByteArray} {maxL nL mc ms n index : Nat} {ret : Option FieldType} {hh : List (Nat × Nat × Nat × Nat)} {ws : List Cond} {rm : Room} {Pc : Array Value → State → Prop} {Qc : Array Value → State → Outcome → State → Prop} {free : Addr → Prop} {Ts : List Cond} {own : String} {As rest : List Value} {g : JFrame}
    (S : CallFix p m c cc nL s args Ts own) (hM : Met l y ws rm Pc Qc mc ms free) (cw : vx_CSW R s args own index y bytes maxL ret hh ws rm mc ms n) (hp : PreS s H Pc As)
    (hg : g.method = m) (hn : As.length = n) (hsize : g.locals.size = nL) (hstack : g.stack = As.reverse ++ rest) (hW : 2 * g.monitorRoom + (rest.map fun v => v.category).sum ≤ 8) (hdg : decode cc g.pc = .ok (.invokestatic index, 3)) (hf : cells + mc ≤ R.cells ∧ slots + ms ≤ R.slots) :
    va_Run p l e R s m args below meth c H locs cells slots mc ms g rest (Qc As.toArray) (free) := by
  obtain ⟨⟨hrc, hrs, hfr, hlo, hws, hcw⟩, hcode, hini, hy, hlen, hl, hstt⟩ := cw
  have hK : Back l R p e below s args y 3 8 (PreOf R mc ms Pc) (PostOf Qc mc ms free) := va_backW (hh := hh) (bytes := bytes) (maxL := maxL) (ret := ret) hM hp.1 hrc hrs hfr hlo hws hcw (fun a' U hW => word_at hW (Or.inl (by first | rfl | simp [Cond.onTables, Cond.keeps, Cond.steady])) hini)
  obtain ⟨hx, hb, hml, ho, -⟩ := S
  intro T hT X
  obtain ⟨v, vm₁, ⟨U', l2, c2, s2⟩, hW₁, X', ⟨g', mk, t, L, e1, e2, hq, h1, hL, h2, h3⟩, st⟩ := vx_callSW X hx (hh := hh) (bytes := bytes) (maxL := maxL) (ret := ret) ho hl hstt hini hcode hy hK hg (hsize.trans hml.symm) (argsL := As) (rest := rest) (fun sig h => hn.trans (hlen sig h)) hstack hW (by rw [hb]; exact hdg)
    (fun vm₁ hW₁ => ⟨hf.1, hf.2, hp.2 (T.setVm vm₁) hT hW₁⟩)
  dsimp only [Pt.U, Pt.locs, Pt.cells, Pt.slots] at X' e1 e2 h1 h2 h3 st
  subst h1; subst h2; subst h3
  exact ⟨v, (T.setVm vm₁).calling g' mk As.toArray, t, U', L, hT, X', hL, e1, e2, hq, st⟩
/-- a thing of a world lies in the heap -/
theorem vx_lt {D : va_G} {cl : List vw_C} {ws : va_W} {H1 : Heap} (h : va_P D cl ws H1) {k : Nat} {q : Nat × va_E} (hk : ws[k]? = some q) : q.1 < H1.size := (h k q hk).lt
end VXS
/-! ===== END ===== -/
/-! ===== BEGIN methods with a table of their own: called by a name, returning or throwing ===== -/
section VXH
/-! vx_backW, vx_callVX, vx_callSX, vx_callVW, vx_runVW, vx_runVX, vx_runSX, vx_ofWH follow the same proofs as their sisters above (Free/Laws.lean, Shelf42/LK1.lean); vx_outP calls Shelf42/NT130.lean (outThrough). -/
section
variable {l : Launch} {R : Room} {p : Program} {e : Env} {below : List Frame} {s : State} {sargs : Array Value} {y : MethodName} {len W9 : Nat}
theorem vx_backW {ws : List Cond} {rm : Room} {Pc : Array Value → State → Prop} {Qc : Array Value → State → Outcome → State → Prop} {XC : String → State → State → Prop} {mc ms : Nat} {free : Addr → Prop} {bytes : ByteArray} {maxL : Nat} {ret : Option FieldType} {hh : List (Nat × Nat × Nat × Nat)}
    (hM : vx_Met l y ws rm Pc Qc XC mc ms free) (hblind : FrameBlind Pc) (hrc : rm.cells = mc) (hrs : rm.slots = ms)
    (hframes : rm.frames + 1 ≤ R.frames) (hlocals : W9 + (maxL + 11) + rm.locals ≤ R.locals)
    (hws : ∀ w ∈ ws, ∀ a' U, s.WarmedH U.vm → w.before a' U = true) (hcode : Cond.codeWith y bytes maxL ret hh ∈ ws) (hinit : ∀ a' U, s.WarmedH U.vm → (Cond.initialized y.cls).before a' U = true) :
    vx_Back l R p e below s sargs y len W9 (PreOf R mc ms Pc) (PostOf Qc mc ms free) (vx_Post XC mc ms free) := by
  intro m meth c A g ig mk a X hg hsize hdg hW hn hp
  have h1 : (headSpec ws rm).pre.before a A.U = true := atoms_intro fun w hw => hws w hw _ _ X.warmed
  have h2 : (Cond.codeWith y bytes maxL ret hh).before a A.U = true := hws _ hcode _ _ X.warmed
  have h3 : (Cond.initialized y.cls).before a A.U = true := hinit _ _ X.warmed
  have h4 : A.cells + (headSpec ws rm).room.cells ≤ R.cells := by rw [show (headSpec ws rm).room.cells = mc from hrc]; exact hp.1
  have h5 : A.slots + (headSpec ws rm).room.slots ≤ R.slots := by rw [show (headSpec ws rm).room.slots = ms from hrs]; exact hp.2.1
  have hPc : Pc a (A.U.calling g mk a) := hblind _ _ _ _ hp.2.2
  obtain ⟨U, Ls, c0, s0⟩ := A
  dsimp only [Pt.U, Pt.locs, Pt.cells, Pt.slots] at h1 h2 h3 h4 h5 X hn hPc ⊢
  obtain ⟨m9, methY, cY, hn9, hmY, hcY, -, hlY, -⟩ := Cond.codeWith_spec h2
  cases Option.some.inj (hn9.symm.trans hn)
  obtain ⟨kY, hkY, -⟩ := className_of_methodNamed hn
  have hinitY : kY.init = .initialized := Cond.initialized_spec (findClass_of_methodNamed hn) hkY h3
  have h : At U g.method c below := by rw [hg]; exact X.here
  have hlocals9 : W9 + (maxL + 11) + (headSpec ws rm).room.locals ≤ R.locals := hlocals
  have happ : (headSpec ws rm).appliesLoose y e.platform (U.calling g mk a) = true :=
    Spec.appliesLoose_calling (g := g) h hdg hn hkY hinitY
      (X.room_calling (g := g) (R' := (headSpec ws rm).room) hsize hmY hcY hframes (by rw [hlY]; omega) h4 h5) h1
  obtain ⟨mid, hmid⟩ := h.above
  have hfr : (U.setTop g).frames = (.java g :: mid) ++ below := by rw [State.frames_setTop' g h.top, hmid]; rfl
  obtain ⟨o, s₂, hsteps, -, hend, hq⟩ := Steps.callFree hM p X.admits X.cas X.clock (acts := []) hfr happ hPc trivial
  have hq' : vx_Q Qc XC mc ms free a (U.calling g mk a) o s₂ := hq
  rw [State.frames_setTop' g h.top] at hend
  obtain ⟨g₀, hg0⟩ := Option.isSome_iff_exists.mp h.top
  obtain ⟨r, hr⟩ := State.topJava?_eq_some.mp hg0
  have hr' : (({ U with heap := s₂.heap, slotsUsed := s₂.slotsUsed } : State).setVm s₂.vm).frames = .java g₀ :: r := hr
  rcases hq' with ⟨hqc, L, hfe, hL⟩ | ⟨q, rfl, E, ce, L, hx, hce, hcv, hcl, hW₂, hsm, hL⟩
  · obtain ⟨⟨v, rfl⟩, hW₂, e2, q2, q3, q4, q5, q6⟩ := id hfe
    have e3 : s₂ = ({ (U.calling g mk a).setFrames s₂.frames with heap := s₂.heap, slotsUsed := s₂.slotsUsed } : State).setVm s₂.vm := by
      have : s₂ = ({ s₂ with vm := (U.calling g mk a).vm } : State).setVm s₂.vm := rfl
      rw [e2] at this
      exact this
    obtain ⟨c₂, i₂, len₂, hc₂, hd₂, hf₂⟩ := hend
    have hW' : U.WarmedH s₂.vm := hW₂
    have hcc : c₂ = c := by
      have h1 : s₂.code? g.method = U.code? g.method := by
        rw [State.code?_eq, State.code?_eq, hW'.alike.method?]
      exact Option.some.inj (hc₂.symm.trans (h1.trans h.code))
    subst hcc
    have hlen : len₂ = len := by rw [hdg] at hd₂; cases hd₂; rfl
    subst hlen
    have hs₂ : s₂ = (({ U with heap := s₂.heap, slotsUsed := s₂.slotsUsed } : State).setVm s₂.vm).setTop { g with pc := g.pc + len₂, stack := v.toList ++ g.stack } := by
      refine e3.trans ?_
      rw [hf₂, State.calling_eq h.top, State.setFrames_setFrames, State.setTop_of_frames _ hr', hr]
      rfl
    have hsame : U.sameButNew ({ U with heap := s₂.heap, slotsUsed := s₂.slotsUsed } : State) L mc ms := by
      refine ⟨?_, q2, q3, q4, q5, q6⟩
      obtain ⟨t, ht, -⟩ := State.frames_cons hr
      show ({ U with heap := s₂.heap, slotsUsed := s₂.slotsUsed } : State) = { U.setFrames U.frames with heap := s₂.heap, slotsUsed := s₂.slotsUsed }
      rw [State.setFrames_self ht]
    subst hg
    refine Or.inl ⟨v, ⟨(({ U with heap := s₂.heap, slotsUsed := s₂.slotsUsed } : State).setVm s₂.vm), Ls ++ L, c0 + mc, s0 + ms⟩,
      ⟨X.admits, X.cas, X.clock, X.frames, X.room, X.hears, X.method, X.code, (X.here.setHeapUsed s₂.heap s₂.slotsUsed).setVm hW'.alike, X.tail, State.WarmedH.trans X.warmed hW', X.limits, X.bytes, X.same.trans (hsame.setVm s.vm)⟩,
      ⟨g, mk, s₂, L, rfl, rfl, hqc, rfl, hL, rfl, rfl⟩, ?_⟩
    show Steps p.tables e below _ ((({ U with heap := s₂.heap, slotsUsed := s₂.slotsUsed } : State).setVm s₂.vm).setTop { g with pc := g.pc + len₂, stack := v.toList ++ g.stack })
    rw [← hs₂]
    exact hsteps
  · obtain ⟨e2, q2, q3, q4, q5, q6⟩ := id hsm
    have e3 : s₂ = ({ (U.calling g mk a).setFrames s₂.frames with heap := s₂.heap, slotsUsed := s₂.slotsUsed } : State).setVm s₂.vm := by
      have : s₂ = ({ s₂ with vm := (U.calling g mk a).vm } : State).setVm s₂.vm := rfl
      rw [e2] at this
      exact this
    have hf₂ : s₂.frames = .throwing q :: .java g :: U.frames.tail := hend
    have hW' : U.WarmedH s₂.vm := hW₂
    have hs₂ : s₂ = ((({ U with heap := s₂.heap, slotsUsed := s₂.slotsUsed } : State).setVm s₂.vm).setTop g).pushFrame (.throwing q) := by
      refine e3.trans ?_
      rw [hf₂, State.calling_eq h.top, State.setFrames_setFrames, State.pushFrame, State.frames_setTop _ hr', State.setTop_of_frames _ hr', State.setFrames_setFrames, hr]
      rfl
    have hsame : U.sameButNew ({ U with heap := s₂.heap, slotsUsed := s₂.slotsUsed } : State) L mc ms := by
      refine ⟨?_, q2, q3, q4, q5, q6⟩
      obtain ⟨t, ht, -⟩ := State.frames_cons hr
      show ({ U with heap := s₂.heap, slotsUsed := s₂.slotsUsed } : State) = { U.setFrames U.frames with heap := s₂.heap, slotsUsed := s₂.slotsUsed }
      rw [State.setFrames_self ht]
    subst hg
    refine Or.inr ⟨q, ⟨(({ U with heap := s₂.heap, slotsUsed := s₂.slotsUsed } : State).setVm s₂.vm), Ls ++ L, c0 + mc, s0 + ms⟩,
      ⟨X.admits, X.cas, X.clock, X.frames, X.room, X.hears, X.method, X.code, (X.here.setHeapUsed s₂.heap s₂.slotsUsed).setVm hW'.alike, X.tail, State.WarmedH.trans X.warmed hW', X.limits, X.bytes, X.same.trans (hsame.setVm s.vm)⟩,
      ⟨g, mk, s₂, L, E, ce, rfl, rfl, hx, hce, hcv, hcl, rfl, hL, rfl, rfl⟩, ?_⟩
    show Steps p.tables e below _ (((({ U with heap := s₂.heap, slotsUsed := s₂.slotsUsed } : State).setVm s₂.vm).setTop g).pushFrame (.throwing q))
    rw [← hs₂]
    exact hsteps
end
variable {p : Program} {l : Launch} {e : Env} {R : Room} {s : State} {m : MethodId} {args : Array Value} {below : List Frame} {meth : Method} {c : Code} {T : State} {H : Heap} {locs : List Loc} {cells slots : Nat}
theorem vx_callVX (X : Stand p l e R s m args below meth c T locs cells slots) (hexec : p.tables.exec = Jvm.exec) {own C : String} {index : Nat} {y : MethodName} {bytes : ByteArray} {maxL : Nat} {ret : Option FieldType} {hh : List (Nat × Nat × Nat × Nat)}
    (hown : s.vm.findClass own = some m.cls) (hlink : (Cond.methodLink own index y).before args s = true) (hinst : (Cond.instanceMethod y).before args s = true) (hsel : (Cond.selects C y y).before args s = true)
    (hcode : (Cond.codeWith y bytes maxL ret hh).before args s = true) (hy : y.cls ≠ "java/lang/invoke/MethodHandle" ∧ y.cls ≠ "java/lang/invoke/VarHandle")
    {W9 : Nat} {Pre : Pt → Array Value → Prop} {Post : Pt → Array Value → Option Value → Pt → Prop} {PostX : Pt → Array Value → Addr → Pt → Prop} (hK : vx_Back l R p e below s args y 3 W9 Pre Post PostX)
    {b : Addr} {cellB : Cell} (hcell : T.heap[b]? = some cellB) (hobj : cellB.vm.isStatics = false) (hcls : s.vm.findClass C = some cellB.cls)
    {g : JFrame} (hg : g.method = m) (hsize : g.locals.size = c.maxLocals) {argsL rest : List Value} (hlen : ∀ sig, parseMethodDescriptor y.desc = some sig → argsL.length = sig.parameters.length)
    (hstack : g.stack = argsL.reverse ++ .ref b :: rest) (hW : 2 * g.monitorRoom + (rest.map fun v => v.category).sum ≤ W9) (hdg : decode c.code g.pc = .ok (.invokevirtual index, 3))
    (hpre : ∀ vm₁, s.WarmedH vm₁ → Pre ⟨T.setVm vm₁, locs, cells, slots⟩ (Value.ref b :: argsL).toArray) :
    (∃ (v : Option Value) (vm₁ : Vm) (B : Pt), s.WarmedH vm₁ ∧ Stand p l e R s m args below meth c B.U B.locs B.cells B.slots ∧ Post ⟨T.setVm vm₁, locs, cells, slots⟩ (Value.ref b :: argsL).toArray v B ∧
      ∀ target, Steps p.tables e below (B.U.setTop { g with pc := g.pc + 3, stack := v.toList ++ rest }) target → Steps p.tables e below (T.setTop g) target) ∨
    (∃ (q : Addr) (vm₁ : Vm) (B : Pt), s.WarmedH vm₁ ∧ Stand p l e R s m args below meth c B.U B.locs B.cells B.slots ∧ PostX ⟨T.setVm vm₁, locs, cells, slots⟩ (Value.ref b :: argsL).toArray q B ∧
      Steps p.tables e below (T.setTop g) ((B.U.setTop { g with stack := rest }).pushFrame (.throwing q))) := by
  obtain ⟨mk, methM, hnamed, hmethM, hstM, habM⟩ := Cond.instanceMethod_spec hinst
  obtain ⟨m8, methM', cM, hn8, hmethM', -, -, -, -, -, -, hsigM⟩ := Cond.codeWith_spec hcode
  cases Option.some.inj (hn8.symm.trans hnamed)
  cases hmethM.symm.trans hmethM'
  obtain ⟨c2, r2, m2, q1, q2, q3, q4, kP, hkP, hkPi⟩ := Cond.selects_spec hsel
  cases hcls.symm.trans q1
  cases (State.methodFound?_of_named hnamed hy).symm.trans q2
  cases hnamed.symm.trans q3
  have hselP : selectMethod e.platform s.vm cellB.cls mk = .method mk := by rw [Launch.admits_selectMethod X.admits]; exact q4
  obtain ⟨vm₁, X₁, hstep₁⟩ := X.invokevirtual hexec hown hlink hnamed hmethM hstM hkP hkPi hy (a := b) (cell := cellB) hcell
    (fun z h => by rw [h] at hobj; cases hobj) hselP hmethM habM hkP hkPi (g := g) hg (argsL := argsL) (rest := rest) (hlen _ hsigM) hstack hdg
  rcases hK m meth c ⟨T.setVm vm₁, locs, cells, slots⟩ { g with stack := rest } (.invokevirtual index) mk (Value.ref b :: argsL).toArray X₁ hg hsize hdg hW (X₁.named hnamed) (hpre vm₁ X₁.warmed) with ⟨v, B, X', hpost, hsteps⟩ | ⟨q, B, X', hpost, hsteps⟩
  · exact Or.inl ⟨v, vm₁, B, X₁.warmed, X', hpost, fun target h => hstep₁ _ fun acts => by rw [doInvoke_state]; exact hsteps.trans h⟩
  · exact Or.inr ⟨q, vm₁, B, X₁.warmed, X', hpost, hstep₁ _ fun acts => by rw [doInvoke_state]; exact hsteps⟩
theorem vx_callSX (X : Stand p l e R s m args below meth c T locs cells slots) (hexec : p.tables.exec = Jvm.exec) {own : String} {index : Nat} {y : MethodName} {bytes : ByteArray} {maxL : Nat} {ret : Option FieldType} {hh : List (Nat × Nat × Nat × Nat)}
    (hown : s.vm.findClass own = some m.cls) (hlink : (Cond.methodLink own index y).before args s = true) (hstat : (Cond.static y).before args s = true) (hinit : (Cond.initialized y.cls).before args s = true)
    (hcode : (Cond.codeWith y bytes maxL ret hh).before args s = true) (hy : y.cls ≠ "java/lang/invoke/MethodHandle" ∧ y.cls ≠ "java/lang/invoke/VarHandle")
    {W9 : Nat} {Pre : Pt → Array Value → Prop} {Post : Pt → Array Value → Option Value → Pt → Prop} {PostX : Pt → Array Value → Addr → Pt → Prop} (hK : vx_Back l R p e below s args y 3 W9 Pre Post PostX)
    {g : JFrame} (hg : g.method = m) (hsize : g.locals.size = c.maxLocals) {argsL rest : List Value} (hlen : ∀ sig, parseMethodDescriptor y.desc = some sig → argsL.length = sig.parameters.length)
    (hstack : g.stack = argsL.reverse ++ rest) (hW : 2 * g.monitorRoom + (rest.map fun v => v.category).sum ≤ W9) (hdg : decode c.code g.pc = .ok (.invokestatic index, 3))
    (hpre : ∀ vm₁, s.WarmedH vm₁ → Pre ⟨T.setVm vm₁, locs, cells, slots⟩ argsL.toArray) :
    (∃ (v : Option Value) (vm₁ : Vm) (B : Pt), s.WarmedH vm₁ ∧ Stand p l e R s m args below meth c B.U B.locs B.cells B.slots ∧ Post ⟨T.setVm vm₁, locs, cells, slots⟩ argsL.toArray v B ∧
      ∀ target, Steps p.tables e below (B.U.setTop { g with pc := g.pc + 3, stack := v.toList ++ rest }) target → Steps p.tables e below (T.setTop g) target) ∨
    (∃ (q : Addr) (vm₁ : Vm) (B : Pt), s.WarmedH vm₁ ∧ Stand p l e R s m args below meth c B.U B.locs B.cells B.slots ∧ PostX ⟨T.setVm vm₁, locs, cells, slots⟩ argsL.toArray q B ∧
      Steps p.tables e below (T.setTop g) ((B.U.setTop { g with stack := rest }).pushFrame (.throwing q))) := by
  obtain ⟨mk, methM, cM, hnamed, hmethM, -, -, -, -, -, -, hsigM⟩ := Cond.codeWith_spec hcode
  have hstatic : methM.isStatic = true := Cond.static_spec hnamed hmethM hstat
  obtain ⟨kP, hkP, -⟩ := className_of_methodNamed hnamed
  have hinitP : kP.init = .initialized := Cond.initialized_spec (findClass_of_methodNamed hnamed) hkP hinit
  obtain ⟨vm₁, X₁, hstep₁⟩ := X.invokestatic hexec hown hlink hnamed hmethM hstatic hkP hinitP hy (g := g) hg (argsL := argsL) (rest := rest) (hlen _ hsigM) hstack hdg
  rcases hK m meth c ⟨T.setVm vm₁, locs, cells, slots⟩ { g with stack := rest } (.invokestatic index) mk argsL.toArray X₁ hg hsize hdg hW (X₁.named hnamed) (hpre vm₁ X₁.warmed) with ⟨v, B, X', hpost, hsteps⟩ | ⟨q, B, X', hpost, hsteps⟩
  · exact Or.inl ⟨v, vm₁, B, X₁.warmed, X', hpost, fun target h => hstep₁ _ fun acts => by rw [doInvoke_state]; exact hsteps.trans h⟩
  · exact Or.inr ⟨q, vm₁, B, X₁.warmed, X', hpost, hstep₁ _ fun acts => by rw [doInvoke_state]; exact hsteps⟩
theorem vx_callVW (X : Stand p l e R s m args below meth c T locs cells slots) (hexec : p.tables.exec = Jvm.exec) {own C : String} {index : Nat} {y : MethodName} {bytes : ByteArray} {maxL : Nat} {ret : Option FieldType} {hh : List (Nat × Nat × Nat × Nat)}
    (hown : s.vm.findClass own = some m.cls) (hlink : (Cond.methodLink own index y).before args s = true) (hinst : (Cond.instanceMethod y).before args s = true) (hsel : (Cond.selects C y y).before args s = true)
    (hcode : (Cond.codeWith y bytes maxL ret hh).before args s = true) (hy : y.cls ≠ "java/lang/invoke/MethodHandle" ∧ y.cls ≠ "java/lang/invoke/VarHandle")
    {W9 : Nat} {Pre : Pt → Array Value → Prop} {Post : Pt → Array Value → Option Value → Pt → Prop} (hK : Back l R p e below s args y 3 W9 Pre Post)
    {b : Addr} {cellB : Cell} (hcell : T.heap[b]? = some cellB) (hobj : cellB.vm.isStatics = false) (hcls : s.vm.findClass C = some cellB.cls)
    {g : JFrame} (hg : g.method = m) (hsize : g.locals.size = c.maxLocals) {argsL rest : List Value} (hlen : ∀ sig, parseMethodDescriptor y.desc = some sig → argsL.length = sig.parameters.length)
    (hstack : g.stack = argsL.reverse ++ .ref b :: rest) (hW : 2 * g.monitorRoom + (rest.map fun v => v.category).sum ≤ W9) (hdg : decode c.code g.pc = .ok (.invokevirtual index, 3))
    (hpre : ∀ vm₁, s.WarmedH vm₁ → Pre ⟨T.setVm vm₁, locs, cells, slots⟩ (Value.ref b :: argsL).toArray) :
    ∃ (v : Option Value) (vm₁ : Vm) (B : Pt), s.WarmedH vm₁ ∧ Stand p l e R s m args below meth c B.U B.locs B.cells B.slots ∧ Post ⟨T.setVm vm₁, locs, cells, slots⟩ (Value.ref b :: argsL).toArray v B ∧
      ∀ target, Steps p.tables e below (B.U.setTop { g with pc := g.pc + 3, stack := v.toList ++ rest }) target → Steps p.tables e below (T.setTop g) target := by
  obtain ⟨mk, methM, hnamed, hmethM, hstM, habM⟩ := Cond.instanceMethod_spec hinst
  obtain ⟨m8, methM', cM, hn8, hmethM', -, -, -, -, -, -, hsigM⟩ := Cond.codeWith_spec hcode
  cases Option.some.inj (hn8.symm.trans hnamed)
  cases hmethM.symm.trans hmethM'
  obtain ⟨c2, r2, m2, q1, q2, q3, q4, kP, hkP, hkPi⟩ := Cond.selects_spec hsel
  cases hcls.symm.trans q1
  cases (State.methodFound?_of_named hnamed hy).symm.trans q2
  cases hnamed.symm.trans q3
  have hselP : selectMethod e.platform s.vm cellB.cls mk = .method mk := by rw [Launch.admits_selectMethod X.admits]; exact q4
  obtain ⟨vm₁, X₁, hstep₁⟩ := X.invokevirtual hexec hown hlink hnamed hmethM hstM hkP hkPi hy (a := b) (cell := cellB) hcell
    (fun z h => by rw [h] at hobj; cases hobj) hselP hmethM habM hkP hkPi (g := g) hg (argsL := argsL) (rest := rest) (hlen _ hsigM) hstack hdg
  obtain ⟨v, B, X', hpost, hsteps⟩ := hK m meth c ⟨T.setVm vm₁, locs, cells, slots⟩ { g with stack := rest } (.invokevirtual index) mk (Value.ref b :: argsL).toArray X₁ hg hsize hdg hW (X₁.named hnamed) (hpre vm₁ X₁.warmed)
  exact ⟨v, vm₁, B, X₁.warmed, X', hpost, fun target h => hstep₁ _ fun acts => by rw [doInvoke_state]; exact hsteps.trans h⟩
abbrev vx_CVW (R : Room) (s : State) (args : Array Value) (own C : String) (index : Nat) (y : MethodName) (bytes : ByteArray) (maxL : Nat) (ret : Option FieldType) (hh : List (Nat × Nat × Nat × Nat)) (ws : List Cond) (rm : Room) (mc ms n : Nat) : Prop :=
  (rm.cells = mc ∧ rm.slots = ms ∧ rm.frames + 1 ≤ R.frames ∧ 8 + (maxL + 11) + rm.locals ≤ R.locals ∧ (∀ w ∈ ws, ∀ (a' : Array Value) (U : State), s.WarmedH U.vm → w.before a' U = true) ∧ Cond.codeWith y bytes maxL ret hh ∈ ws) ∧
  (Cond.codeWith y bytes maxL ret hh).before args s = true ∧ (Cond.initialized y.cls).before args s = true ∧ (y.cls ≠ "java/lang/invoke/MethodHandle" ∧ y.cls ≠ "java/lang/invoke/VarHandle") ∧
  (∀ sig, parseMethodDescriptor y.desc = some sig → n = sig.parameters.length) ∧ (Cond.methodLink own index y).before args s = true ∧ (Cond.instanceMethod y).before args s = true ∧ (Cond.selects C y y).before args s = true
theorem vx_cwVW {own C : String} {index maxL mc ms : Nat} {y : MethodName} {bytes : ByteArray} {ret : Option FieldType} {hh : List (Nat × Nat × Nat × Nat)} {Ts ws ws' : List Cond} {rm : Room} (n : Nat) (ht : ∀ w ∈ Ts, w.before args s = true) (hT : GoodIn Ts (wsV own index C y ws)) (hw : ws = Cond.codeWith y bytes maxL ret hh :: ws') (hrc : rm.cells = mc) (hrs : rm.slots = ms)
    (hd : y.cls = C ∧ y.cls ≠ "java/lang/invoke/MethodHandle" ∧ y.cls ≠ "java/lang/invoke/VarHandle" ∧ (parseMethodDescriptor y.desc).map (fun d => d.parameters.length) = some n) (hR : rm.frames + 1 ≤ R.frames ∧ 8 + (maxL + 11) + rm.locals ≤ R.locals) :
    vx_CVW R s args own C index y bytes maxL ret hh ws rm mc ms n := by
  obtain ⟨hC, hd⟩ := hd
  subst hC
  have ok : ∀ w ∈ wsV own index y.cls y ws, w.before args s = true := fun w h => ht w (hT w h).1
  have hG : GoodIn Ts ws := fun w h => hT w (by unfold wsV; exact List.mem_append_right _ h)
  have hc : Cond.codeWith y bytes maxL ret hh ∈ ws := by rw [hw]; exact List.mem_cons_self
  refine ⟨⟨hrc, hrs, hR.1, hR.2, pay_in ht hG, hc⟩, ht _ (hG _ hc).1, ok _ (by simp [wsV]), ⟨hd.1, hd.2.1⟩, fun sig h => ?_, ok _ (by simp [wsV]), ok _ (by simp [wsV]), ok _ (by simp [wsV])⟩
  have h2 := hd.2.2
  rw [h] at h2
  exact (Option.some.inj h2).symm
theorem vx_runVW {y : MethodName} {bytes cc : ByteArray} {maxL nL mc ms n index : Nat} {ret : Option FieldType} {hh : List (Nat × Nat × Nat × Nat)} {ws : List Cond} {rm : Room} {Pc : Array Value → State → Prop} {Qc : Array Value → State → Outcome → State → Prop} {free : Addr → Prop} {Ts : List Cond} {own C : String} {b : Addr} {As rest : List Value} {g : JFrame}
    (S : CallFix p m c cc nL s args Ts own) (hM : Met l y ws rm Pc Qc mc ms free) (cw : vx_CVW R s args own C index y bytes maxL ret hh ws rm mc ms n) (hp : PreV s H C b Pc As)
    (hg : g.method = m) (hn : As.length = n) (hsize : g.locals.size = nL) (hstack : g.stack = As.reverse ++ .ref b :: rest) (hW : 2 * g.monitorRoom + (rest.map fun v => v.category).sum ≤ 8) (hdg : decode cc g.pc = .ok (.invokevirtual index, 3)) (hf : cells + mc ≤ R.cells ∧ slots + ms ≤ R.slots) :
    va_Run p l e R s m args below meth c H locs cells slots mc ms g rest (Qc (Value.ref b :: As).toArray) free := by
  obtain ⟨⟨hrc, hrs, hfr, hlo, hws, hcw⟩, hcode, hini, hy, hlen, hl, hin, hse⟩ := cw
  have hK : Back l R p e below s args y 3 8 (PreOf R mc ms Pc) (PostOf Qc mc ms free) := va_backW (hh := hh) (bytes := bytes) (maxL := maxL) (ret := ret) hM hp.1 hrc hrs hfr hlo hws hcw (fun a' U hW => word_at hW (Or.inl (by first | rfl | simp [Cond.onTables, Cond.keeps, Cond.steady])) hini)
  obtain ⟨hx, hb, hml, ho, -⟩ := S
  obtain ⟨-, ⟨cellB, hcB, hoB, hclB⟩, hPc⟩ := hp
  intro T hT X
  obtain ⟨v, vm₁, ⟨U', l2, c2, s2⟩, hW₁, X', ⟨g', mk, t, L, e1, e2, hq, h1, hL, h2, h3⟩, st⟩ := vx_callVW X hx (C := C) (hh := hh) (bytes := bytes) (maxL := maxL) (ret := ret) ho hl hin hse hcode hy hK (by rw [hT]; exact hcB) hoB hclB hg (hsize.trans hml.symm) (argsL := As) (rest := rest) (fun sig h => hn.trans (hlen sig h)) hstack hW (by rw [hb]; exact hdg)
    (fun vm₁ hW₁ => ⟨hf.1, hf.2, hPc (T.setVm vm₁) hT hW₁⟩)
  dsimp only [Pt.U, Pt.locs, Pt.cells, Pt.slots] at X' e1 e2 h1 h2 h3 st
  subst h1; subst h2; subst h3
  exact ⟨v, (T.setVm vm₁).calling g' mk (Value.ref b :: As).toArray, t, U', L, hT, X', hL, e1, e2, hq, st⟩
section
variable {y : MethodName} {bytes cc : ByteArray} {maxL nL mc ms n index : Nat} {ret : Option FieldType} {ws : List Cond} {rm : Room} {Pc : Array Value → State → Prop} {Qc : Array Value → State → Outcome → State → Prop} {XC : String → State → State → Prop} {free : Addr → Prop} {Ts : List Cond} {own C : String} {b : Addr} {As rest : List Value} {g : JFrame}
theorem vx_runVX {hh : List (Nat × Nat × Nat × Nat)} (S : CallFix p m c cc nL s args Ts own) (hM : vx_Met l y ws rm Pc Qc XC mc ms free) (cw : vx_CVW R s args own C index y bytes maxL ret hh ws rm mc ms n) (hp : PreV s H C b Pc As)
    (hg : g.method = m) (hn : As.length = n) (hsize : g.locals.size = nL) (hstack : g.stack = As.reverse ++ .ref b :: rest) (hW : 2 * g.monitorRoom + (rest.map fun v => v.category).sum ≤ 8) (hdg : decode cc g.pc = .ok (.invokevirtual index, 3)) (hf : cells + mc ≤ R.cells ∧ slots + ms ≤ R.slots) :
    vx_Run p l e R s m args below meth c H locs cells slots mc ms g rest (Qc (Value.ref b :: As).toArray) XC free := by
  obtain ⟨⟨hrc, hrs, hfr, hlo, hws, hcw⟩, hcode, hini, hy, hlen, hl, hin, hse⟩ := cw
  have hK : vx_Back l R p e below s args y 3 8 (PreOf R mc ms Pc) (PostOf Qc mc ms free) (vx_Post XC mc ms free) := vx_backW (hh := hh) (bytes := bytes) (maxL := maxL) (ret := ret) hM hp.1 hrc hrs hfr hlo hws hcw (fun a' U hW => word_at hW (Or.inl (by first | rfl | simp [Cond.onTables, Cond.keeps, Cond.steady])) hini)
  obtain ⟨hx, hb, hml, ho, -⟩ := S
  obtain ⟨-, ⟨cellB, hcB, hoB, hclB⟩, hPc⟩ := hp
  intro T hT X
  rcases vx_callVX X hx (C := C) (hh := hh) (bytes := bytes) (maxL := maxL) (ret := ret) ho hl hin hse hcode hy hK (by rw [hT]; exact hcB) hoB hclB hg (hsize.trans hml.symm) (argsL := As) (rest := rest) (fun sig h => hn.trans (hlen sig h)) hstack hW (by rw [hb]; exact hdg)
    (fun vm₁ hW₁ => ⟨hf.1, hf.2, hPc (T.setVm vm₁) hT hW₁⟩) with ⟨v, vm₁, ⟨U', l2, c2, s2⟩, hW₁, X', ⟨g', mk, t, L, e1, e2, hq, h1, hL, h2, h3⟩, st⟩ | ⟨q, vm₁, ⟨U', l2, c2, s2⟩, hW₁, X', ⟨g', mk, t, L, E, ce, e1, e2, hq, hce, hcv, hcl, h1, hL, h2, h3⟩, st⟩
  · dsimp only [Pt.U, Pt.locs, Pt.cells, Pt.slots] at X' e1 e2 h1 h2 h3 st
    subst h1; subst h2; subst h3
    exact Or.inl ⟨v, (T.setVm vm₁).calling g' mk (Value.ref b :: As).toArray, t, U', L, hT, X', hL, e1, e2, hq, st⟩
  · dsimp only [Pt.U, Pt.locs, Pt.cells, Pt.slots] at X' e1 e2 h1 h2 h3 st hcl
    subst h1; subst h2; subst h3
    exact Or.inr ⟨q, (T.setVm vm₁).calling g' mk (Value.ref b :: As).toArray, t, U', L, E, ce, hT, X', hL, e1, e2, hq, hce, hcv, vx_cls hW₁ hcl, st⟩
theorem vx_runSX {hh : List (Nat × Nat × Nat × Nat)} (S : CallFix p m c cc nL s args Ts own) (hM : vx_Met l y ws rm Pc Qc XC mc ms free) (cw : vx_CSW R s args own index y bytes maxL ret hh ws rm mc ms n) (hp : PreS s H Pc As)
    (hg : g.method = m) (hn : As.length = n) (hsize : g.locals.size = nL) (hstack : g.stack = As.reverse ++ rest) (hW : 2 * g.monitorRoom + (rest.map fun v => v.category).sum ≤ 8) (hdg : decode cc g.pc = .ok (.invokestatic index, 3)) (hf : cells + mc ≤ R.cells ∧ slots + ms ≤ R.slots) :
    vx_Run p l e R s m args below meth c H locs cells slots mc ms g rest (Qc As.toArray) XC free := by
  obtain ⟨⟨hrc, hrs, hfr, hlo, hws, hcw⟩, hcode, hini, hy, hlen, hl, hstt⟩ := cw
  have hK : vx_Back l R p e below s args y 3 8 (PreOf R mc ms Pc) (PostOf Qc mc ms free) (vx_Post XC mc ms free) := vx_backW (hh := hh) (bytes := bytes) (maxL := maxL) (ret := ret) hM hp.1 hrc hrs hfr hlo hws hcw (fun a' U hW => word_at hW (Or.inl (by first | rfl | simp [Cond.onTables, Cond.keeps, Cond.steady])) hini)
  obtain ⟨hx, hb, hml, ho, -⟩ := S
  intro T hT X
  rcases vx_callSX X hx (hh := hh) (bytes := bytes) (maxL := maxL) (ret := ret) ho hl hstt hini hcode hy hK hg (hsize.trans hml.symm) (argsL := As) (rest := rest) (fun sig h => hn.trans (hlen sig h)) hstack hW (by rw [hb]; exact hdg)
    (fun vm₁ hW₁ => ⟨hf.1, hf.2, hp.2 (T.setVm vm₁) hT hW₁⟩) with ⟨v, vm₁, ⟨U', l2, c2, s2⟩, hW₁, X', ⟨g', mk, t, L, e1, e2, hq, h1, hL, h2, h3⟩, st⟩ | ⟨q, vm₁, ⟨U', l2, c2, s2⟩, hW₁, X', ⟨g', mk, t, L, E, ce, e1, e2, hq, hce, hcv, hcl, h1, hL, h2, h3⟩, st⟩
  · dsimp only [Pt.U, Pt.locs, Pt.cells, Pt.slots] at X' e1 e2 h1 h2 h3 st
    subst h1; subst h2; subst h3
    exact Or.inl ⟨v, (T.setVm vm₁).calling g' mk As.toArray, t, U', L, hT, X', hL, e1, e2, hq, st⟩
  · dsimp only [Pt.U, Pt.locs, Pt.cells, Pt.slots] at X' e1 e2 h1 h2 h3 st hcl
    subst h1; subst h2; subst h3
    exact Or.inr ⟨q, (T.setVm vm₁).calling g' mk As.toArray, t, U', L, E, ce, hT, X', hL, e1, e2, hq, hce, hcv, vx_cls hW₁ hcl, st⟩
end
end VXH
theorem vx_ofWH {l : Launch} {y : MethodName} {ws ws' : List Cond} {rm : Room} {Pc : Array Value → State → Prop} {Qc : Array Value → State → Outcome → State → Prop} {XC : String → State → State → Prop} {mc ms : Nat} {free : Addr → Prop} {cc : ByteArray} {maxL : Nat} {ret : Option FieldType} {hh : List (Nat × Nat × Nat × Nat)}
    (hy : plainName y.cls = true) (hw : ws = Cond.codeWith y cc maxL ret hh :: ws')
    (body : ∀ p e s m args below meth c s₁, BodyLoose p l y (headSpec ws rm) cc maxL ret e s m args below meth c s₁ → c.maxLocals = maxL → Pc args s →
      W p l e (headSpec ws rm).room s m args below meth c s.heap [] 0 0 (vx_MQ below Qc XC args s mc ms free) (entryFrame m args maxL)) : vx_Met l y ws rm Pc Qc XC mc ms free := by
  refine MetFree.of_bodyS (code := cc) (maxLocals := maxL) (ret := ret) hy ?_ ?_
  · intro args s m h hn
    obtain ⟨m9, meth, c, hn9, h1, h2, h3, h4, -, h5, h6, -⟩ := Cond.codeWith_spec (atoms_spec (ws := ws) h _ (by rw [hw]; exact List.mem_cons_self))
    cases hn.symm.trans hn9
    exact ⟨meth, c, h1, h2, h3, h4, h5, h6⟩
  · intro p e s m args below meth c s₁ B hml hP _
    have hh0 : s₁.heap = s.heap := by rw [B.state]; rfl
    obtain ⟨t, a1, o, b1, b2, b3⟩ := body p e s m args below meth c s₁ B hml hP s₁ hh0 (Stand.of_body B)
    exact ⟨t, o, a1, b1, b2, b3⟩
/-! ===== END ===== -/
end
section
/-! THE SMALL MACHINE: a frame over a small world, values with handles (places of the world) in the stead of addresses; what a stretch of instructions asks is computed (pm_wp) -/
section PMA
def pm_v (ad : Nat → Nat) : Value → Value
  | .ref k => .ref (ad k)
  | .int x => .int x
  | .long x => .long x
  | .float x => .float x
  | .double x => .double x
  | .null => .null
  | .retAddr x => .retAddr x
abbrev pm_E : Type := (FieldType × vp_A) ⊕ (Nat × List Value)
def pm_c (ad : Nat → Nat) (t : ClassId) : pm_E → va_E
  | .inl a => .inl (t, a.2)
  | .inr o => .inr (o.1, o.2.map (pm_v ad))
def pm_w (ad : Nat → Nat) (tI : Nat → ClassId) (w : List pm_E) : va_W := w.mapIdx (fun k c => (ad k, pm_c ad (tI k) c))
def pm_nth {α : Type} : List α → Nat → Option α
  | [], _ => none
  | a :: _, 0 => some a
  | _ :: l, i + 1 => pm_nth l i
theorem pm_nth_eq {α : Type} : ∀ (l : List α) (i : Nat), pm_nth l i = l[i]?
  | [], i => by simp [pm_nth]
  | a :: l, 0 => by simp [pm_nth]
  | a :: l, i + 1 => by simp [pm_nth, pm_nth_eq l i]
theorem pm_cat (ad : Nat → Nat) (v : Value) : (pm_v ad v).category = v.category := by cases v <;> rfl
theorem pm_w_get {ad : Nat → Nat} {tI : Nat → ClassId} {w : List pm_E} {k : Nat} {c : pm_E} (h : w[k]? = some c) : (pm_w ad tI w)[k]? = some (ad k, pm_c ad (tI k) c) := by
  simp [pm_w, List.getElem?_mapIdx, h]
theorem pm_w_set (ad : Nat → Nat) (tI : Nat → ClassId) (w : List pm_E) (k : Nat) (c : pm_E) : pm_w ad tI (w.set k c) = (pm_w ad tI w).set k (ad k, pm_c ad (tI k) c) := by
  apply List.ext_getElem?
  intro i
  simp only [pm_w, List.getElem?_mapIdx, List.getElem?_set]
  by_cases h : k = i
  · subst h
    by_cases h2 : k < w.length
    · simp [h2]
    · simp [h2]
  · simp [h]
theorem pm_w_len (ad : Nat → Nat) (tI : Nat → ClassId) (w : List pm_E) : (pm_w ad tI w).length = w.length := by simp [pm_w]
/-- the arrays' own words of the tables, and the classes' -/
def pm_K (D : va_G) (cl : List vw_C) (tI : Nat → ClassId) (w : List pm_E) (U : State) : Prop := (∀ (c : Nat) (q : vw_C), cl[c]? = some q → u_Kn U q.1 q.2.1 q.2.2 (D.1 c) (D.2 c)) ∧ ∀ (k : Nat) (a : FieldType × vp_A), w[k]? = some (.inl a) → ArrOfT U (tI k) a.1 ∧ va_RA U (tI k) a.1
theorem pm_K.moved {D : va_G} {cl : List vw_C} {tI : Nat → ClassId} {w : List pm_E} {u U : State} (hvm : u.vm.Alike U.vm) (h : pm_K D cl tI w u) : pm_K D cl tI w U := ⟨fun c q hq => u_Kn_moved hvm (h.1 c q hq), fun k a hk => ⟨arrOfT_moved hvm (h.2 k a hk).1, (h.2 k a hk).2.moved hvm⟩⟩
theorem pm_K.at {D : va_G} {cl : List vw_C} {tI : Nat → ClassId} {w : List pm_E} {U : State} (h : pm_K D cl tI w U) {k : Nat} {t : FieldType} {a : vp_A} (hk : w[k]? = some (.inl (t, a))) : va_K D cl [(tI k, t)] U := by
  refine ⟨h.1, fun i q hq => ?_⟩
  cases i with
  | zero => cases hq; exact h.2 k _ hk
  | succ i => simp at hq
theorem pm_K.obj {D : va_G} {cl : List vw_C} {tI : Nat → ClassId} {w : List pm_E} {U : State} (h : pm_K D cl tI w U) : va_K D cl [] U := ⟨h.1, fun i q hq => by simp at hq⟩
/-- a cell of the same kind in its place -/
theorem pm_K.setA {D : va_G} {cl : List vw_C} {tI : Nat → ClassId} {w : List pm_E} {U : State} (h : pm_K D cl tI w U) {k : Nat} {t : FieldType} {a b : vp_A} (hk : w[k]? = some (.inl (t, a))) : pm_K D cl tI (w.set k (.inl (t, b))) U := by
  refine ⟨h.1, fun i q hq => ?_⟩
  rw [List.getElem?_set] at hq
  by_cases hi : k = i
  · subst hi
    have hl := (List.getElem?_eq_some_iff.mp hk).1
    simp only [if_true, hl] at hq
    cases hq
    exact h.2 k (t, a) hk
  · rw [if_neg hi] at hq
    exact h.2 i q hq
theorem pm_K.setO {D : va_G} {cl : List vw_C} {tI : Nat → ClassId} {w : List pm_E} {U : State} (h : pm_K D cl tI w U) {k : Nat} {o : Nat × List Value} : pm_K D cl tI (w.set k (.inr o)) U := by
  refine ⟨h.1, fun i q hq => ?_⟩
  rw [List.getElem?_set] at hq
  by_cases hi : k = i
  · subst hi
    simp only [if_true] at hq
    split at hq
    · cases hq
    · cases hq
  · rw [if_neg hi] at hq
    exact h.2 i q hq
/-- locals by their places -/
def pm_L (ad : Nat → Nat) (nL : Nat) (ls : Array Slot) (L : List (Option Value)) : Prop := L.length = nL ∧ ls.size = nL ∧ lv_wf ls ∧ ∀ (i : Nat) (v : Value), L[i]? = some (some v) → ls[i]? = some (.val (pm_v ad v))
def pm_lv (ad : Nat → Nat) (L : List (Option Value)) : List (Nat × Value) := (List.range L.length).filterMap (fun i => (L[i]?.join).map (fun v => (i, pm_v ad v)))
theorem pm_lv_mem {ad : Nat → Nat} {L : List (Option Value)} {i : Nat} {x : Value} : (i, x) ∈ pm_lv ad L ↔ ∃ v, L[i]? = some (some v) ∧ x = pm_v ad v := by
  simp only [pm_lv, List.mem_filterMap, List.mem_range, Option.map_eq_some_iff, Prod.mk.injEq, Option.join_eq_some_iff]
  constructor
  · rintro ⟨j, -, v, hv, rfl, rfl⟩
    exact ⟨v, hv, rfl⟩
  · rintro ⟨v, hv, rfl⟩
    exact ⟨i, (List.getElem?_eq_some_iff.mp hv).1, v, hv, rfl, rfl⟩
theorem pm_L.has {ad : Nat → Nat} {nL : Nat} {ls : Array Slot} {L : List (Option Value)} (h : pm_L ad nL ls L) : lv_has ls nL (pm_lv ad L) := by
  refine ⟨h.2.1, h.2.2.1, fun q hq => ?_⟩
  obtain ⟨i, x⟩ := q
  obtain ⟨v, hv, rfl⟩ := pm_lv_mem.mp hq
  exact h.2.2.2 i v hv
def pm_dr (L : List (Option Value)) (i : Nat) : List (Option Value) := match i with
  | 0 => L
  | j + 1 => match pm_nth L j with
    | some (some u) => match Nat.beq u.category 2 with
      | true => L.set j none
      | false => L
    | _ => L
def pm_s1 (L : List (Option Value)) (i : Nat) (v : Value) : List (Option Value) := (pm_dr L i).set i (some v)
def pm_s2 (L : List (Option Value)) (i : Nat) (v : Value) : List (Option Value) := ((pm_dr L i).set i (some v)).set (i + 1) none
theorem pm_dr_len (L : List (Option Value)) (i : Nat) : (pm_dr L i).length = L.length := by
  unfold pm_dr
  split
  · rfl
  · split
    · split
      · simp
      · rfl
    · rfl
theorem pm_dr_get {L : List (Option Value)} {i j : Nat} {v : Value} (h : (pm_dr L i)[j]? = some (some v)) : L[j]? = some (some v) ∧ ¬ (j + 1 = i ∧ v.category = 2) := by
  unfold pm_dr at h
  split at h
  · exact ⟨h, fun q => by omega⟩
  · rename_i k
    split at h
    · rename_i u hu
      rw [pm_nth_eq] at hu
      split at h
      · rw [List.getElem?_set] at h
        by_cases hk : k = j
        · subst hk
          simp only [if_true] at h
          split at h <;> simp at h
        · rw [if_neg hk] at h
          exact ⟨h, fun q => hk (by omega)⟩
      · rename_i hc
        refine ⟨h, fun q => ?_⟩
        have hkj : k = j := by omega
        subst hkj
        rw [hu] at h
        cases h
        rw [q.2] at hc
        cases hc
    · rename_i hu
      refine ⟨h, fun q => ?_⟩
      have hkj : k = j := by omega
      subst hkj
      rw [pm_nth_eq] at hu
      exact hu v h
theorem pm_L.s1 {ad : Nat → Nat} {nL : Nat} {ls ls' : Array Slot} {L : List (Option Value)} {i : Nat} {v : Value} (h : pm_L ad nL ls L)
    (h' : lv_has ls' nL ((i, pm_v ad v) :: (pm_lv ad L).filter (fun q => !(q.1 == i) && !(q.1 + 1 == i && q.2.category == 2)))) : pm_L ad nL ls' (pm_s1 L i v) := by
  refine ⟨by simp [pm_s1, pm_dr_len, h.1], h'.1, h'.2.1, fun j u hu => ?_⟩
  unfold pm_s1 at hu
  rw [List.getElem?_set] at hu
  by_cases hij : i = j
  · subst hij
    simp only [if_true] at hu
    split at hu
    · cases hu
      exact h'.2.2 _ List.mem_cons_self
    · cases hu
  · rw [if_neg hij] at hu
    obtain ⟨h1, h2⟩ := pm_dr_get hu
    refine h'.2.2 (j, pm_v ad u) (List.mem_cons_of_mem _ (List.mem_filter.mpr ⟨pm_lv_mem.mpr ⟨u, h1, rfl⟩, ?_⟩))
    simp only [pm_cat, Bool.and_eq_true, Bool.not_eq_true', beq_eq_false_iff_ne, ne_eq, Bool.and_eq_false_iff, beq_iff_eq]
    refine ⟨fun q => hij q.symm, ?_⟩
    by_cases q : j + 1 = i
    · exact Or.inr (fun z => h2 ⟨q, z⟩)
    · exact Or.inl q
theorem pm_L.s2 {ad : Nat → Nat} {nL : Nat} {ls ls' : Array Slot} {L : List (Option Value)} {i : Nat} {v : Value} (h : pm_L ad nL ls L)
    (h' : lv_has ls' nL ((i, pm_v ad v) :: (pm_lv ad L).filter (fun q => !(q.1 == i) && (!(q.1 == i + 1) && !(q.1 + 1 == i && q.2.category == 2))))) : pm_L ad nL ls' (pm_s2 L i v) := by
  refine ⟨by simp [pm_s2, pm_dr_len, h.1], h'.1, h'.2.1, fun j u hu => ?_⟩
  unfold pm_s2 at hu
  rw [List.getElem?_set] at hu
  by_cases hij1 : i + 1 = j
  · subst hij1
    simp only [if_true] at hu
    split at hu <;> simp at hu
  rw [if_neg hij1, List.getElem?_set] at hu
  by_cases hij : i = j
  · subst hij
    simp only [if_true] at hu
    split at hu
    · cases hu
      exact h'.2.2 _ List.mem_cons_self
    · cases hu
  · rw [if_neg hij] at hu
    obtain ⟨h1, h2⟩ := pm_dr_get hu
    refine h'.2.2 (j, pm_v ad u) (List.mem_cons_of_mem _ (List.mem_filter.mpr ⟨pm_lv_mem.mpr ⟨u, h1, rfl⟩, ?_⟩))
    simp only [pm_cat, Bool.and_eq_true, Bool.not_eq_true', beq_eq_false_iff_ne, ne_eq, Bool.and_eq_false_iff, beq_iff_eq]
    refine ⟨fun q => hij q.symm, fun q => hij1 q.symm, ?_⟩
    by_cases q : j + 1 = i
    · exact Or.inr (fun z => h2 ⟨q, z⟩)
    · exact Or.inl q
end PMA
end
section
section PMB
/-- a whole constant -/
def pm_k (n : Int) : Int32 := match n with
  | .ofNat k => nI k
  | .negSucc k => -nI (k + 1)
theorem pm_k_eq (n : Int) : Int32.ofInt n = pm_k n := by
  cases n with
  | ofNat k => exact Int32.ofInt_eq_ofNat
  | negSucc k =>
    show Int32.ofInt (Int.negSucc k) = -nI (k + 1)
    rw [Int.negSucc_eq, Int32.ofInt_neg]
    rfl
theorem pm_k8 (n : Int) (h1 : -128 ≤ n) (h2 : n < 128) : (Int8.ofInt n).toInt32 = pm_k n := by
  rw [← pm_k_eq]
  apply Int32.toInt_inj.mp
  rw [Int8.toInt_toInt32, Int8.toInt_ofInt_of_le (by omega) (by omega), Int32.toInt_ofInt_of_le (by omega) (by omega)]
theorem pm_k16 (n : Int) (h1 : -32768 ≤ n) (h2 : n < 32768) : (Int16.ofInt n).toInt32 = pm_k n := by
  rw [← pm_k_eq]
  apply Int32.toInt_inj.mp
  rw [Int16.toInt_toInt32, Int16.toInt_ofInt_of_le (by omega) (by omega), Int32.toInt_ofInt_of_le (by omega) (by omega)]
def pm_stk (i : Instr) (st : List Value) : Option (Nat × List Value) :=
  match i, st with
  | .iconst n, r => some (1, .int (pm_k n) :: r)
  | .lconst n, r => some (1, .long (lN n.val) :: r)
  | .iadd, .int y :: .int x :: r => some (1, .int (x + y) :: r)
  | .isub, .int y :: .int x :: r => some (1, .int (x - y) :: r)
  | .imul, .int y :: .int x :: r => some (1, .int (x * y) :: r)
  | .iand, .int y :: .int x :: r => some (1, .int (x &&& y) :: r)
  | .ior, .int y :: .int x :: r => some (1, .int (x ||| y) :: r)
  | .ixor, .int y :: .int x :: r => some (1, .int (x ^^^ y) :: r)
  | .ishl, .int y :: .int x :: r => some (1, .int (x <<< (y &&& 31)) :: r)
  | .ishr, .int y :: .int x :: r => some (1, .int (x >>> (y &&& 31)) :: r)
  | .iushr, .int y :: .int x :: r => some (1, .int ((x.toUInt32 >>> (y.toUInt32 &&& Int32.toUInt32 31)).toInt32) :: r)
  | .ladd, .long y :: .long x :: r => some (1, .long (x + y) :: r)
  | .lmul, .long y :: .long x :: r => some (1, .long (x * y) :: r)
  | .land, .long y :: .long x :: r => some (1, .long (x &&& y) :: r)
  | .lor, .long y :: .long x :: r => some (1, .long (x ||| y) :: r)
  | .lxor, .long y :: .long x :: r => some (1, .long (x ^^^ y) :: r)
  | .lshl, .int y :: .long x :: r => some (1, .long (x <<< (y.toInt64 &&& 63)) :: r)
  | .lushr, .int y :: .long x :: r => some (1, .long ((x.toUInt64 >>> (y.toInt64.toUInt64 &&& Int64.toUInt64 63)).toInt64) :: r)
  | .lcmp, .long y :: .long x :: r => some (1, .int (lg_cmp x y) :: r)
  | .i2l, .int x :: r => some (1, .long x.toInt64 :: r)
  | .l2i, .long x :: r => some (1, .int x.toInt32 :: r)
  | .i2c, .int x :: r => some (1, .int (x.toUInt32 % 65536).toInt32 :: r)
  | .i2f, .int x :: r => some (1, .float (FP.i2f x) :: r)
  | .fcmp op, .float y :: .float x :: r => some (1, .int (Op.cmpValue (FP.fcmp x y) op) :: r)
  | .dcmp op, .double y :: .double x :: r => some (1, .int (Op.cmpValue (FP.dcmp x y) op) :: r)
  | _, _ => none
def pm_stk2 (i : Instr) (st : List Value) : Option (Nat × List Value) :=
  match i with
  | .bipush n => match decide (-128 ≤ n) && decide (n < 128) with
    | true => some (2, .int (pm_k n) :: st)
    | false => none
  | .sipush n => match decide (-32768 ≤ n) && decide (n < 32768) with
    | true => some (3, .int (pm_k n) :: st)
    | false => none
  | .fconst n => match n.val with
    | 0 => some (1, .float FP.fconst0 :: st)
    | 1 => some (1, .float FP.fconst1 :: st)
    | _ => none
  | .dup => match st with
    | a :: r => match Nat.beq a.category 1 with
      | true => some (1, a :: a :: r)
      | false => none
    | _ => none
  | .dup2 => match st with
    | a :: b :: r => match Nat.beq a.category 1 && Nat.beq b.category 1 with
      | true => some (1, a :: b :: a :: b :: r)
      | false => none
    | _ => none
  | _ => none
/-- with a guard -/
def pm_gst (i : Instr) (st : List Value) : Option (Prop × Nat × List Value) :=
  match i, st with
  | .idiv, .int y :: .int x :: r => some (¬ y = 0, 1, .int (x / y) :: r)
  | .irem, .int y :: .int x :: r => some (¬ y = 0, 1, .int (x - x / y * y) :: r)
  | .fdiv, .float y :: .float x :: r => some (vf_n32 (FP.fdiv x y), 1, .float (FP.fdiv x y) :: r)
  | .fmul, .float y :: .float x :: r => some (vf_n32 (FP.fmul x y), 1, .float (FP.fmul x y) :: r)
  | .f2d, .float x :: r => some (vf_n64 (FP.f2d x), 1, .double (FP.f2d x) :: r)
  | _, _ => none
/-- a branch: its condition, its offset, the stack behind it -/
def pm_br (i : Instr) (st : List Value) : Option (Prop × Int × List Value) :=
  match i, st with
  | .if_icmp q off, .int y :: .int x :: r => some (match q with
    | .eq => x = y
    | .ne => ¬ x = y
    | .lt => x < y
    | .ge => y ≤ x
    | .gt => y < x
    | .le => x ≤ y, off, r)
  | .ifCond q off, .int x :: r => some (match q with
    | .eq => x = 0
    | .ne => ¬ x = 0
    | .lt => x < 0
    | .ge => 0 ≤ x
    | .gt => 0 < x
    | .le => x ≤ 0, off, r)
  | _, _ => none
variable {p : Program} {l : Launch} {e : Env} {R : Room} {s : State} {m : MethodId} {args : Array Value} {below : List Frame} {meth : Method} {c : Code} {H : Heap} {locs : List Loc} {cells slots : Nat} {Q : State → Prop} {cc : ByteArray} {pc : Nat} {ls : Array Slot} {ad : Nat → Nat}
set_option maxHeartbeats 1000000 in
theorem pm_stk_ok (hx : p.tables.exec = Jvm.exec) (hb : c.code = cc) {i : Instr} {n : Nat} {st st' : List Value} (h : pm_stk i st = some (n, st')) (hdg : decode cc pc = .ok (i, n))
    (k : W p l e R s m args below meth c H locs cells slots Q (F0 m (pc + n) ls (st'.map (pm_v ad)))) : W p l e R s m args below meth c H locs cells slots Q (F0 m pc ls (st.map (pm_v ad))) := by
  unfold pm_stk at h
  split at h
  · cases h; exact lv_iconst hx hb hdg (pm_k_eq _) k
  · cases h; exact lv_lconst hx hb hdg rfl k
  · cases h; exact lv_iadd hx hb hdg k
  · cases h; exact lv_isub hx hb hdg k
  · cases h; exact lv_imul hx hb hdg k
  · cases h; exact lv_iand hx hb hdg k
  · cases h; exact lv_ior hx hb hdg k
  · cases h; exact lv_ixor hx hb hdg k
  · cases h; exact lv_ishl hx hb hdg k
  · cases h; exact lv_ishr hx hb hdg k
  · cases h; exact lv_iushr hx hb hdg rfl k
  · cases h; exact lv_ladd hx hb hdg k
  · cases h; exact lv_lmul hx hb hdg k
  · cases h; exact lv_land hx hb hdg k
  · cases h; exact lv_lor hx hb hdg k
  · cases h; exact lv_lxor hx hb hdg k
  · cases h; exact lv_lshl hx hb hdg rfl k
  · cases h; exact lv_lushr hx hb hdg rfl k
  · cases h; exact W.lcmp hx hb hdg k
  · cases h; exact lv_i2l hx hb hdg rfl k
  · cases h; exact lv_l2i hx hb hdg rfl k
  · cases h; exact lv_i2c hx hb hdg rfl k
  · cases h; exact lv_i2f hx hb hdg k
  · cases h; exact lv_fcmp hx hb hdg k
  · cases h; exact lv_dcmp hx hb hdg k
  · cases h
set_option maxHeartbeats 1000000 in
theorem pm_stk2_ok (hx : p.tables.exec = Jvm.exec) (hb : c.code = cc) {i : Instr} {n : Nat} {st st' : List Value} (h : pm_stk2 i st = some (n, st')) (hdg : decode cc pc = .ok (i, n))
    (k : W p l e R s m args below meth c H locs cells slots Q (F0 m (pc + n) ls (st'.map (pm_v ad)))) : W p l e R s m args below meth c H locs cells slots Q (F0 m pc ls (st.map (pm_v ad))) := by
  unfold pm_stk2 at h
  split at h
  · split at h
    · rename_i hq
      cases h
      simp only [Bool.and_eq_true, decide_eq_true_eq] at hq
      exact lv_bipush hx hb hdg (pm_k8 _ hq.1 hq.2) k
    · cases h
  · split at h
    · rename_i hq
      cases h
      simp only [Bool.and_eq_true, decide_eq_true_eq] at hq
      exact lv_sipush hx hb hdg (pm_k16 _ hq.1 hq.2) k
    · cases h
  · rename_i f
    split at h
    · rename_i hq
      cases h
      have hf : f = 0 := Fin.ext hq
      subst hf
      exact lv_fconst0 hx hb hdg k
    · rename_i hq
      cases h
      have hf : f = 1 := Fin.ext hq
      subst hf
      exact lv_fconst1 hx hb hdg k
    · cases h
  · split at h
    · split at h
      · rename_i hq
        cases h
        exact lv_dup hx hb hdg (by rw [pm_cat]; exact Nat.eq_of_beq_eq_true hq) k
      · cases h
    · cases h
  · split at h
    · split at h
      · rename_i hq
        cases h
        simp only [Bool.and_eq_true] at hq
        exact lv_dup2_11 hx hb hdg (by rw [pm_cat]; exact Nat.eq_of_beq_eq_true hq.1) (by rw [pm_cat]; exact Nat.eq_of_beq_eq_true hq.2) k
      · cases h
    · cases h
  · cases h
theorem pm_gst_ok (hx : p.tables.exec = Jvm.exec) (hb : c.code = cc) {i : Instr} {n : Nat} {st st' : List Value} {g : Prop} (h : pm_gst i st = some (g, n, st')) (hg : g) (hdg : decode cc pc = .ok (i, n))
    (k : W p l e R s m args below meth c H locs cells slots Q (F0 m (pc + n) ls (st'.map (pm_v ad)))) : W p l e R s m args below meth c H locs cells slots Q (F0 m pc ls (st.map (pm_v ad))) := by
  unfold pm_gst at h
  split at h
  · cases h; exact lv_idiv hx hb hdg hg k
  · cases h; exact lv_irem hx hb hdg hg k
  · cases h; exact lv_fdiv hx hb hdg hg k
  · cases h; exact lv_fmul hx hb hdg hg k
  · cases h; exact lv_f2d hx hb hdg hg k
  · cases h
theorem pm_br_ok (hx : p.tables.exec = Jvm.exec) (hb : c.code = cc) {i : Instr} {st st' : List Value} {q : Prop} {off : Int} {tgt : Nat} (h : pm_br i st = some (q, off, st')) (ht : (pc : Int) + off = (tgt : Int)) (hdg : decode cc pc = .ok (i, 3))
    (kt : q → W p l e R s m args below meth c H locs cells slots Q (F0 m tgt ls (st'.map (pm_v ad)))) (kf : ¬ q → W p l e R s m args below meth c H locs cells slots Q (F0 m (pc + 3) ls (st'.map (pm_v ad)))) : W p l e R s m args below meth c H locs cells slots Q (F0 m pc ls (st.map (pm_v ad))) := by
  unfold pm_br at h
  split at h
  · rename_i cnd off' y x r
    cases cnd <;> cases h
    · exact lv_icmp_eq hx hb hdg ht kt kf
    · exact lv_icmp_ne hx hb hdg ht kt (fun z => kf (fun w => w z))
    · exact lv_icmp_lt hx hb hdg ht kt kf
    · exact lv_icmp_ge hx hb hdg ht kt kf
    · exact lv_icmp_gt hx hb hdg ht kt kf
    · exact lv_icmp_le hx hb hdg ht kt kf
  · rename_i cnd off' x r
    cases cnd <;> cases h
    · exact lv_if_eq hx hb hdg ht kt kf
    · exact lv_if_ne hx hb hdg ht kt (fun z => kf (fun w => w z))
    · exact lv_if_lt hx hb hdg ht kt kf
    · exact lv_if_ge hx hb hdg ht kt kf
    · exact lv_if_gt hx hb hdg ht kt kf
    · exact lv_if_le hx hb hdg ht kt kf
  · cases h
end PMB
end
section
section PMC
def pm_kd (v : Value) : Nat := match v with
  | .int _ => 0
  | .long _ => 1
  | .float _ => 2
  | .double _ => 3
  | .ref _ => 4
  | _ => 5
def pm_ldi (i : Instr) : Option (Nat × Nat × Nat) := match i with
  | .iload n => some (0, n, 2)
  | .iload_n n => some (0, n.val, 1)
  | .lload n => some (1, n, 2)
  | .lload_n n => some (1, n.val, 1)
  | .fload n => some (2, n, 2)
  | .fload_n n => some (2, n.val, 1)
  | .dload n => some (3, n, 2)
  | .dload_n n => some (3, n.val, 1)
  | .aload n => some (4, n, 2)
  | .aload_n n => some (4, n.val, 1)
  | _ => none
def pm_sti (i : Instr) : Option (Nat × Nat × Nat) := match i with
  | .istore n => some (0, n, 2)
  | .istore_n n => some (0, n.val, 1)
  | .lstore n => some (1, n, 2)
  | .lstore_n n => some (1, n.val, 1)
  | .fstore n => some (2, n, 2)
  | .fstore_n n => some (2, n.val, 1)
  | .astore n => some (4, n, 2)
  | .astore_n n => some (4, n.val, 1)
  | _ => none
abbrev pm_C : Type := Nat × List (Option Value) × List Value × List pm_E
/-- code by places; field entries (pool entry, a nest mate's or not, the owner's number, the field's); constants -/
abbrev pm_I : Type := List (Nat × Instr × Nat) × List (Nat × Bool × Nat × Nat) × List (Nat × Value)
/-- it stands; a step; a step with a guard; a branch -/
abbrev pm_R : Type := Unit ⊕ pm_C ⊕ (Prop × pm_C) ⊕ (Prop × pm_C × pm_C)
def pm_find {α : Type} : List (Nat × α) → Nat → Option α
  | [], _ => none
  | a :: l, k => match Nat.beq a.1 k with
    | true => some a.2
    | false => pm_find l k
theorem pm_find_mem {α : Type} : ∀ (l : List (Nat × α)) (k : Nat) (x : α), pm_find l k = some x → (k, x) ∈ l
  | [], k, x, h => by simp [pm_find] at h
  | a :: l, k, x, h => by
    unfold pm_find at h
    split at h
    · rename_i hb
      cases h
      have hk := Nat.eq_of_beq_eq_true hb
      subst hk
      exact List.mem_cons_self
    · exact List.mem_cons_of_mem _ (pm_find_mem l k x h)
def pm_ty (ci : Nat) : Nat → FieldType := match ci with
  | 0 => tyX0
  | 1 => tyX1
  | 2 => tyX2
  | 3 => tyX3
  | 4 => tyX4
  | 5 => tyX5
  | _ => tyX6
theorem pm_ty_ok : ∀ (ci : Nat) (q : vw_C), vwCl[ci]? = some q → (∀ k, k < q.2.2 → parseFieldDescriptor (q.2.1 k).2.2.1 = some (pm_ty ci k)) ∧ ∀ a, a < q.2.2 → ∀ b, b < q.2.2 → a ≠ b → (q.2.1 a).2.1 ≠ (q.2.1 b).2.1
  | 0, q, h => by cases h; exact ⟨tyX0_ok, nmX0⟩
  | 1, q, h => by cases h; exact ⟨tyX1_ok, nmX1⟩
  | 2, q, h => by cases h; exact ⟨tyX2_ok, nmX2⟩
  | 3, q, h => by cases h; exact ⟨tyX3_ok, nmX3⟩
  | 4, q, h => by cases h; exact ⟨tyX4_ok, nmX4⟩
  | 5, q, h => by cases h; exact ⟨tyX5_ok, nmX5⟩
  | 6, q, h => by cases h; exact ⟨tyX6_ok, nmX6⟩
  | n + 7, q, h => by simp [vwCl] at h
/-- a field that may be written: its type takes the value -/
def pm_fit (ci k : Nat) (v : Value) : Bool := match pm_nth vwCl ci with
  | some q => match (q.2.1 k).2.2.2 with
    | true => false
    | false => match pm_ty ci k, v with
      | .int, .int _ => true
      | .object _, .ref _ => true
      | _, _ => false
  | none => false
def pm_mem (I : pm_I) (i : Instr) (n pc : Nat) (L : List (Option Value)) (st : List Value) (w : List pm_E) : pm_R :=
  match i, st with
  | .iinc ix k, st => match pm_nth L ix with
    | some (some (.int x)) => match Nat.beq n 3 with
      | true => .inr (.inl (pc + 3, pm_s1 L ix (.int (x + pm_k k)), st, w))
      | false => .inl ()
    | _ => .inl ()
  | .goto off, st => match Nat.beq n 3 && decide (0 ≤ (pc : Int) + off) with
    | true => .inr (.inl (((pc : Int) + off).toNat, L, st, w))
    | false => .inl ()
  | .getfield ix, .ref h :: r => match pm_find I.2.1 ix, pm_nth w h with
    | some (_, ci, k), some (.inr (cj, fs)) => match Nat.beq n 3 && Nat.beq ci cj, pm_nth fs k with
      | true, some v => .inr (.inl (pc + 3, L, v :: r, w))
      | _, _ => .inl ()
    | _, _ => .inl ()
  | .putfield ix, v :: .ref h :: r => match pm_find I.2.1 ix, pm_nth w h with
    | some (_, ci, k), some (.inr (cj, fs)) => match Nat.beq n 3 && Nat.beq ci cj && pm_fit ci k v && Nat.blt k fs.length with
      | true => .inr (.inl (pc + 3, L, r, w.set h (.inr (cj, fs.set k v))))
      | false => .inl ()
    | _, _ => .inl ()
  | .ldc ix, st => match pm_find I.2.2 ix with
    | some (.int x) => match Nat.beq n 2 with
      | true => .inr (.inl (pc + 2, L, .int x :: st, w))
      | false => .inl ()
    | some (.float x) => match Nat.beq n 2 with
      | true => .inr (.inl (pc + 2, L, .float x :: st, w))
      | false => .inl ()
    | _ => .inl ()
  | .ldc2_w ix, st => match pm_find I.2.2 ix with
    | some (.long x) => match Nat.beq n 3 with
      | true => .inr (.inl (pc + 3, L, .long x :: st, w))
      | false => .inl ()
    | _ => .inl ()
  | .iaload, .int x :: .ref h :: r => match pm_nth w h with
    | some (.inl (.int, N, .inl f)) => match Nat.beq n 1 with
      | true => .inr (.inr (.inl (vp_in x N, pc + 1, L, .int (f x.toNatClampNeg) :: r, w)))
      | false => .inl ()
    | _ => .inl ()
  | .laload, .int x :: .ref h :: r => match pm_nth w h with
    | some (.inl (.long, N, .inr (.inl f))) => match Nat.beq n 1 with
      | true => .inr (.inr (.inl (vp_in x N, pc + 1, L, .long (f x.toNatClampNeg) :: r, w)))
      | false => .inl ()
    | _ => .inl ()
  | .caload, .int x :: .ref h :: r => match pm_nth w h with
    | some (.inl (.char, N, .inl f)) => match Nat.beq n 1 with
      | true => .inr (.inr (.inl (vp_in x N, pc + 1, L, .int (f x.toNatClampNeg) :: r, w)))
      | false => .inl ()
    | _ => .inl ()
  | .baload, .int x :: .ref h :: r => match pm_nth w h with
    | some (.inl (.boolean, N, .inl f)) => match Nat.beq n 1 with
      | true => .inr (.inr (.inl (vp_in x N, pc + 1, L, .int (f x.toNatClampNeg) :: r, w)))
      | false => .inl ()
    | _ => .inl ()
  | .daload, .int x :: .ref h :: r => match pm_nth w h with
    | some (.inl (.double, N, .inr (.inr (.inr (.inl f))))) => match Nat.beq n 1 with
      | true => .inr (.inr (.inl (vp_in x N, pc + 1, L, .double (f x.toNatClampNeg) :: r, w)))
      | false => .inl ()
    | _ => .inl ()
  | .iastore, .int v :: .int x :: .ref h :: r => match pm_nth w h with
    | some (.inl (.int, N, .inl f)) => match Nat.beq n 1 with
      | true => .inr (.inr (.inl (vp_in x N, pc + 1, L, r, w.set h (.inl (.int, N, .inl (upd f x.toNatClampNeg v))))))
      | false => .inl ()
    | _ => .inl ()
  | .lastore, .long v :: .int x :: .ref h :: r => match pm_nth w h with
    | some (.inl (.long, N, .inr (.inl f))) => match Nat.beq n 1 with
      | true => .inr (.inr (.inl (vp_in x N, pc + 1, L, r, w.set h (.inl (.long, N, .inr (.inl (vp_updL f x.toNatClampNeg v)))))))
      | false => .inl ()
    | _ => .inl ()
  | .castore, .int v :: .int x :: .ref h :: r => match pm_nth w h with
    | some (.inl (.char, N, .inl f)) => match Nat.beq n 1 with
      | true => .inr (.inr (.inl (vp_in x N, pc + 1, L, r, w.set h (.inl (.char, N, .inl (upd f x.toNatClampNeg (vp_nar .char v)))))))
      | false => .inl ()
    | _ => .inl ()
  | .bastore, .int v :: .int x :: .ref h :: r => match pm_nth w h with
    | some (.inl (.boolean, N, .inl f)) => match Nat.beq n 1 with
      | true => .inr (.inr (.inl (vp_in x N, pc + 1, L, r, w.set h (.inl (.boolean, N, .inl (upd f x.toNatClampNeg (vp_nar .boolean v)))))))
      | false => .inl ()
    | _ => .inl ()
  | .dastore, .double v :: .int x :: .ref h :: r => match pm_nth w h with
    | some (.inl (.double, N, .inr (.inr (.inr (.inl f))))) => match Nat.beq n 1 with
      | true => .inr (.inr (.inl (vp_in x N, pc + 1, L, r, w.set h (.inl (.double, N, .inr (.inr (.inr (.inl (vf_upd f x.toNatClampNeg v)))))))))
      | false => .inl ()
    | _ => .inl ()
  | _, _ => .inl ()
def pm_go (n k pc : Nat) (L : List (Option Value)) (st' : List Value) (w : List pm_E) : pm_R := match Nat.beq k n with
  | true => .inr (.inl (pc + n, L, st', w))
  | false => .inl ()
def pm_do (I : pm_I) (C : pm_C) : pm_R :=
  match C with
  | (pc, L, st, w) => match pm_find I.1 pc with
    | none => .inl ()
    | some (i, n) => match pm_ldi i with
      | some (kd, ix, len) => match pm_nth L ix with
        | some (some v) => match Nat.beq len n && Nat.beq (pm_kd v) kd with
          | true => .inr (.inl (pc + n, L, v :: st, w))
          | false => .inl ()
        | _ => .inl ()
      | none => match pm_sti i with
        | some (kd, ix, len) => match st with
          | v :: r => match Nat.beq len n && Nat.beq (pm_kd v) kd && Nat.ble (ix + v.category) L.length with
            | true => match Nat.beq v.category 1 with
              | true => .inr (.inl (pc + n, pm_s1 L ix v, r, w))
              | false => .inr (.inl (pc + n, pm_s2 L ix v, r, w))
            | false => .inl ()
          | [] => .inl ()
        | none => match pm_stk i st with
          | some (k, st') => pm_go n k pc L st' w
          | none => match pm_stk2 i st with
            | some (k, st') => pm_go n k pc L st' w
            | none => match pm_gst i st with
              | some (g, k, st') => match Nat.beq k n with
                | true => .inr (.inr (.inl (g, pc + n, L, st', w)))
                | false => .inl ()
              | none => match pm_br i st with
                | some (q, off, st') => match Nat.beq n 3 && decide (0 ≤ (pc : Int) + off) with
                  | true => .inr (.inr (.inr (q, (((pc : Int) + off).toNat, L, st', w), (pc + 3, L, st', w))))
                  | false => .inl ()
                | none => pm_mem I i n pc L st w
def pm_at (stops : List Nat) (K : pm_C → Prop) (f : pm_C → Prop) (C : pm_C) : Prop := match stops.contains C.1 with
  | true => K C
  | false => f C
/-- what a stretch asks, with K where it stands, or comes to a stop -/
def pm_wp (I : pm_I) (stops : List Nat) (K : pm_C → Prop) : Nat → pm_C → Prop
  | 0, C => K C
  | n + 1, C => match pm_do I C with
    | .inl _ => K C
    | .inr (.inl C') => pm_at stops K (pm_wp I stops K n) C'
    | .inr (.inr (.inl (g, C'))) => g ∧ pm_at stops K (pm_wp I stops K n) C'
    | .inr (.inr (.inr (q, A, B))) => (q → pm_at stops K (pm_wp I stops K n) A) ∧ (¬ q → pm_at stops K (pm_wp I stops K n) B)
def pm_fok (s : State) (args : Array Value) (own : String) (x : Nat × Bool × Nat × Nat) : Prop := ∃ q : vw_C, vwCl[x.2.2.1]? = some q ∧ x.2.2.2 < q.2.2 ∧
  (((Cond.fieldLink own x.1 (q.2.1 x.2.2.2).1 (q.2.1 x.2.2.2).2.1 (q.2.1 x.2.2.2).2.2.1).before args s = true) ∨ ∃ host, (Cond.fieldLinkNest own x.1 (q.2.1 x.2.2.2).1 (q.2.1 x.2.2.2).2.1 (q.2.1 x.2.2.2).2.2.1 host).before args s = true)
def pm_cok (s : State) (args : Array Value) (own : String) (x : Nat × Value) : Prop := match x.2 with
  | .int v => (Cond.constant own x.1 v).before args s = true
  | .float v => (Cond.constantFloat own x.1 v).before args s = true
  | .long v => (Cond.constantLong own x.1 v).before args s = true
  | _ => False
/-- what holds throughout a body -/
def pm_X (p : Program) (s : State) (m : MethodId) (args : Array Value) (c : Code) (cc : ByteArray) (own : String) (Ts : List Cond) (I : pm_I) : Prop :=
  p.tables.exec = Jvm.exec ∧ c.code = cc ∧ s.vm.findClass own = some m.cls ∧ (∀ w ∈ Ts, w.before args s = true) ∧ (∀ (ci : Nat) (q : vw_C), vwCl[ci]? = some q → ∀ w ∈ u_ws q.1 q.2.1 q.2.2, w ∈ Ts) ∧
  (∀ x ∈ I.1, decode cc x.1 = .ok x.2) ∧ (∀ x ∈ I.2.1, pm_fok s args own x) ∧ (∀ x ∈ I.2.2, pm_cok s args own x)
def pm_W (p : Program) (l : Launch) (e : Env) (R : Room) (s : State) (m : MethodId) (args : Array Value) (below : List Frame) (meth : Method) (c : Code) (nL : Nat) (D : va_G) (A : Nat → Prop) (ad : Nat → Nat) (tI : Nat → ClassId) (cells slots : Nat) (Q : State → Prop) (C : pm_C) : Prop :=
  ∀ (H : Heap) (locs : List Loc) (ls : Array Slot), va_P D vwCl (pm_w ad tI C.2.2.2) H → va_D A (pm_w ad tI C.2.2.2) → va_S A s.heap H locs → pm_L ad nL ls C.2.1 → pm_K D vwCl tI C.2.2.2 s → W p l e R s m args below meth c H locs cells slots Q (F0 m C.1 ls (C.2.2.1.map (pm_v ad)))
variable {p : Program} {l : Launch} {e : Env} {R : Room} {s : State} {m : MethodId} {args : Array Value} {below : List Frame} {meth : Method} {c : Code} {cells slots : Nat} {Q : State → Prop} {cc : ByteArray} {ad : Nat → Nat} {tI : Nat → ClassId} {nL : Nat} {D : va_G} {A : Nat → Prop} {own : String} {Ts : List Cond} {I : pm_I}
theorem pm_ld_ok {H : Heap} {locs : List Loc} {ls : Array Slot} {pc : Nat} {rest : List Value} (hx : p.tables.exec = Jvm.exec) (hb : c.code = cc) {i : Instr} {ix len : Nat} {v : Value} (h : pm_ldi i = some (pm_kd v, ix, len)) (hl : ls[ix]? = some (.val (pm_v ad v))) (hdg : decode cc pc = .ok (i, len))
    (k : W p l e R s m args below meth c H locs cells slots Q (F0 m (pc + len) ls (pm_v ad v :: rest))) : W p l e R s m args below meth c H locs cells slots Q (F0 m pc ls rest) := by
  unfold pm_ldi at h
  split at h <;> cases v <;> cases h
  · exact lv_iload hx hb hdg hl k
  · exact lv_iload_n hx hb hdg rfl hl k
  · exact lv_lload hx hb hdg hl k
  · exact lv_lload_n hx hb hdg rfl hl k
  · exact lv_fload hx hb hdg hl k
  · exact lv_fload_n hx hb hdg rfl hl k
  · exact lv_dload hx hb hdg hl k
  · exact lv_dload_n hx hb hdg rfl hl k
  · exact lv_aload hx hb hdg hl k
  · exact lv_aload_n hx hb hdg rfl hl k
theorem pm_st_ok {H : Heap} {locs : List Loc} {ls : Array Slot} {L : List (Option Value)} {pc : Nat} {rest : List Value} (hx : p.tables.exec = Jvm.exec) (hb : c.code = cc) {i : Instr} {ix len : Nat} {v : Value} (h : pm_sti i = some (pm_kd v, ix, len)) (hL : pm_L ad nL ls L) (hn : ix + v.category ≤ nL) (hdg : decode cc pc = .ok (i, len))
    (k : ∀ ls' : Array Slot, pm_L ad nL ls' (if v.category = 1 then pm_s1 L ix v else pm_s2 L ix v) → W p l e R s m args below meth c H locs cells slots Q (F0 m (pc + len) ls' rest)) : W p l e R s m args below meth c H locs cells slots Q (F0 m pc ls (pm_v ad v :: rest)) := by
  unfold pm_sti at h
  split at h <;> cases v <;> cases h
  · exact lv_istore hx hb hdg hL.has hn rfl (fun ls' h' => k ls' (hL.s1 h'))
  · exact lv_istore_n hx hb hdg rfl hL.has hn rfl (fun ls' h' => k ls' (hL.s1 h'))
  · exact lv_lstore hx hb hdg hL.has hn rfl (fun ls' h' => k ls' (hL.s2 h'))
  · exact lv_lstore_n hx hb hdg rfl hL.has hn rfl (fun ls' h' => k ls' (hL.s2 h'))
  · exact lv_fstore hx hb hdg hL.has hn rfl (fun ls' h' => k ls' (hL.s1 h'))
  · exact lv_fstore_n hx hb hdg rfl hL.has hn rfl (fun ls' h' => k ls' (hL.s1 h'))
  · exact lv_astore hx hb hdg hL.has hn rfl (fun ls' h' => k ls' (hL.s1 h'))
  · exact lv_astore_n hx hb hdg rfl hL.has hn rfl (fun ls' h' => k ls' (hL.s1 h'))
/-- what a result of pm_do asks -/
def pm_ask (K : pm_C → Prop) (r : pm_R) (C : pm_C) : Prop := match r with
  | .inl _ => K C
  | .inr (.inl C') => K C'
  | .inr (.inr (.inl (g, C'))) => g ∧ K C'
  | .inr (.inr (.inr (q, A, B))) => (q → K A) ∧ (¬ q → K B)
theorem pm_put_ok (X : pm_X p s m args c cc own Ts I) {ix ci k h pc : Nat} {b : Bool} {L : List (Option Value)} {v : Value} {r fs : List Value} {w : List pm_E} (hf : pm_find I.2.1 ix = some (b, ci, k)) (hw : pm_nth w h = some (.inr (ci, fs))) (h6 : pm_fit ci k v = true) (h7 : Nat.blt k fs.length = true) (hdg : decode cc pc = .ok (.putfield ix, 3))
    (K : pm_W p l e R s m args below meth c nL D A ad tI cells slots Q (pc + 3, L, r, w.set h (.inr (ci, fs.set k v)))) : pm_W p l e R s m args below meth c nL D A ad tI cells slots Q (pc, L, v :: .ref h :: r, w) := by
  obtain ⟨hx, hb, hown, hts, hin, hcd, hfd, hcs⟩ := X
  rw [pm_nth_eq] at hw
  obtain ⟨⟨C9, T9, N9⟩, hq, hkN, hlink⟩ := hfd _ (pm_find_mem _ _ _ hf)
  dsimp only at hq hkN hlink
  obtain ⟨hty, hnm⟩ := pm_ty_ok _ _ hq
  dsimp only at hty hnm
  have h8 : (T9 k).2.2.2 = false ∧ narrow (pm_ty ci k) (pm_v ad v) = pm_v ad v ∧ fits (pm_ty ci k) (pm_v ad v) = true := by
    unfold pm_fit at h6
    rw [pm_nth_eq, hq] at h6
    dsimp only at h6
    split at h6
    · cases h6
    · rename_i hfin
      refine ⟨hfin, ?_⟩
      split at h6
      · rename_i ht; rw [ht]; exact ⟨rfl, rfl⟩
      · rename_i ht; rw [ht]; exact ⟨rfl, rfl⟩
      · cases h6
  intro H locs ls hP hD hS hL hK
  have key : ∀ (H1 : Heap) (locs1 : List Loc), va_P D vwCl ((pm_w ad tI w).set h (ad h, .inr (ci, (List.map (pm_v ad) fs).set k (pm_v ad v)))) H1 → va_D A ((pm_w ad tI w).set h (ad h, .inr (ci, (List.map (pm_v ad) fs).set k (pm_v ad v)))) → va_S A s.heap H1 locs1 → W p l e R s m args below meth c H1 locs1 cells slots Q (F0 m (pc + 3) ls (List.map (pm_v ad) r)) := fun H1 locs1 a1 a2 a3 => by
    rw [← List.map_set] at a1 a2
    exact K H1 locs1 ls (by rw [pm_w_set]; exact a1) (by rw [pm_w_set]; exact a2) a3 hL hK.setO
  have hlen : k < (List.map (pm_v ad) fs).length := by rw [List.length_map]; exact Nat.blt_eq.mp h7
  rcases hlink with hlink | ⟨host, hlink⟩
  · exact va_put hx hb hts (hin _ _ hq) (pm_ty ci) hty hnm hown hK.obj hP hD hS h (pm_w_get hw) hq k hkN hlink (fun _ z => z) h8.1 (hty _ hkN) h8.2.1 h8.2.2 hlen hdg key
  · exact va_putN hx hb hts (hin _ _ hq) (pm_ty ci) hty hnm hown hK.obj hP hD hS h (pm_w_get hw) hq k hkN hlink (fun _ z => z) h8.1 (hty _ hkN) h8.2.1 h8.2.2 hlen hdg key
set_option maxHeartbeats 2000000 in
theorem pm_mem_ok (X : pm_X p s m args c cc own Ts I) {i : Instr} {n pc : Nat} {L : List (Option Value)} {st : List Value} {w : List pm_E} (hdg : decode cc pc = .ok (i, n))
    (h : pm_ask (pm_W p l e R s m args below meth c nL D A ad tI cells slots Q) (pm_mem I i n pc L st w) (pc, L, st, w)) : pm_W p l e R s m args below meth c nL D A ad tI cells slots Q (pc, L, st, w) := by
  obtain ⟨hx, hb, hown, hts, hin, hcd, hfd, hcs⟩ := X
  unfold pm_mem at h
  split at h
  · -- iinc
    split at h
    · rename_i hl
      split at h
      · rename_i h3
        have h3 := Nat.eq_of_beq_eq_true h3
        subst h3
        intro H locs ls hP hD hS hL hK
        rw [pm_nth_eq] at hl
        have hm := pm_lv_mem (ad := ad) |>.mpr ⟨_, hl, rfl⟩
        obtain ⟨k0, hk0⟩ := List.getElem?_of_mem hm
        exact lv_iinc hx hb hdg hL.has hk0 (by rw [pm_k_eq]) (by rw [← hL.1]; exact (List.getElem?_eq_some_iff.mp hl).1) rfl (fun ls' h' => h H locs ls' hP hD hS (hL.s1 (v := .int _) h') hK)
      · exact h
    · exact h
  · -- goto
    split at h
    · rename_i h3
      simp only [Bool.and_eq_true, decide_eq_true_eq] at h3
      have h4 := Nat.eq_of_beq_eq_true h3.1
      subst h4
      intro H locs ls hP hD hS hL hK
      exact lv_goto hx hb hdg (Int.toNat_of_nonneg h3.2).symm (h H locs ls hP hD hS hL hK)
    · exact h
  · -- getfield
    split at h
    · rename_i hf hw
      split at h
      · rename_i h3 hv
        simp only [Bool.and_eq_true] at h3
        have h4 := Nat.eq_of_beq_eq_true h3.1
        have h5 := Nat.eq_of_beq_eq_true h3.2
        subst h4; subst h5
        rw [pm_nth_eq] at hw hv
        obtain ⟨⟨C9, T9, N9⟩, hq, hkN, hlink⟩ := hfd _ (pm_find_mem _ _ _ hf)
        intro H locs ls hP hD hS hL hK
        have hv' := by
          have := congrArg (Option.map (pm_v ad)) hv
          rwa [← List.getElem?_map] at this
        rcases hlink with hlink | ⟨host, hlink⟩
        · exact va_get hx hb hts (hin _ _ hq) hown hK.obj hP _ (pm_w_get hw) hq _ hkN hlink (fun _ z => z) hv' hdg (h H locs ls hP hD hS hL hK)
        · exact va_getN hx hb hts (hin _ _ hq) hown hK.obj hP _ (pm_w_get hw) hq _ hkN hlink (fun _ z => z) hv' hdg (h H locs ls hP hD hS hL hK)
      · exact h
    · exact h
  · -- putfield
    split at h
    · rename_i hf hw
      split at h
      · rename_i h3
        simp only [Bool.and_eq_true] at h3
        obtain ⟨⟨⟨h4, h5⟩, h6⟩, h7⟩ := h3
        have h4 := Nat.eq_of_beq_eq_true h4
        have h5 := Nat.eq_of_beq_eq_true h5
        subst h4; subst h5
        exact pm_put_ok ⟨hx, hb, hown, hts, hin, hcd, hfd, hcs⟩ hf hw h6 h7 hdg h
      · exact h
    · exact h
  · -- ldc
    split at h
    · rename_i hc
      split at h
      · rename_i h3
        have h3 := Nat.eq_of_beq_eq_true h3
        subst h3
        intro H locs ls hP hD hS hL hK
        exact lv_ldc hx hb hown (hcs _ (pm_find_mem _ _ _ hc)) hdg (h H locs ls hP hD hS hL hK)
      · exact h
    · rename_i hc
      split at h
      · rename_i h3
        have h3 := Nat.eq_of_beq_eq_true h3
        subst h3
        intro H locs ls hP hD hS hL hK
        exact lv_ldcf hx hb hown (hcs _ (pm_find_mem _ _ _ hc)) hdg (h H locs ls hP hD hS hL hK)
      · exact h
    · exact h
  · -- ldc2_w
    split at h
    · rename_i hc
      split at h
      · rename_i h3
        have h3 := Nat.eq_of_beq_eq_true h3
        subst h3
        intro H locs ls hP hD hS hL hK
        exact lv_ldc2 hx hb hown (hcs _ (pm_find_mem _ _ _ hc)) hdg (h H locs ls hP hD hS hL hK)
      · exact h
    · exact h
  · -- iaload
    split at h
    · rename_i hw
      split at h
      · rename_i h3
        have h3 := Nat.eq_of_beq_eq_true h3
        subst h3
        rw [pm_nth_eq] at hw
        intro H locs ls hP hD hS hL hK
        exact va_iald hx hb (hK.at hw) hP _ 0 (pm_w_get hw) rfl h.1 hdg (h.2 H locs ls hP hD hS hL hK)
      · exact h
    · exact h
  · -- laload
    split at h
    · rename_i hw
      split at h
      · rename_i h3
        have h3 := Nat.eq_of_beq_eq_true h3
        subst h3
        rw [pm_nth_eq] at hw
        intro H locs ls hP hD hS hL hK
        exact va_lald hx hb (hK.at hw) hP _ 0 (pm_w_get hw) rfl h.1 hdg (h.2 H locs ls hP hD hS hL hK)
      · exact h
    · exact h
  · -- caload
    split at h
    · rename_i hw
      split at h
      · rename_i h3
        have h3 := Nat.eq_of_beq_eq_true h3
        subst h3
        rw [pm_nth_eq] at hw
        intro H locs ls hP hD hS hL hK
        exact va_cald hx hb (hK.at hw) hP _ 0 (pm_w_get hw) rfl h.1 hdg (h.2 H locs ls hP hD hS hL hK)
      · exact h
    · exact h
  · -- baload
    split at h
    · rename_i hw
      split at h
      · rename_i h3
        have h3 := Nat.eq_of_beq_eq_true h3
        subst h3
        rw [pm_nth_eq] at hw
        intro H locs ls hP hD hS hL hK
        exact va_zald hx hb (hK.at hw) hP _ 0 (pm_w_get hw) rfl h.1 hdg (h.2 H locs ls hP hD hS hL hK)
      · exact h
    · exact h
  · -- daload
    split at h
    · rename_i hw
      split at h
      · rename_i h3
        have h3 := Nat.eq_of_beq_eq_true h3
        subst h3
        rw [pm_nth_eq] at hw
        intro H locs ls hP hD hS hL hK
        exact va_dald hx hb (hK.at hw) hP _ 0 (pm_w_get hw) rfl h.1 hdg (h.2 H locs ls hP hD hS hL hK)
      · exact h
    · exact h
  · -- iastore
    split at h
    · rename_i hw
      split at h
      · rename_i h3
        have h3 := Nat.eq_of_beq_eq_true h3
        subst h3
        rw [pm_nth_eq] at hw
        intro H locs ls hP hD hS hL hK
        exact va_iast hx hb (hK.at hw) hP hD hS _ 0 (pm_w_get hw) rfl h.1 hdg (fun H1 locs1 a1 a2 a3 => h.2 H1 locs1 ls (by rw [pm_w_set]; exact a1) (by rw [pm_w_set]; exact a2) a3 hL (hK.setA hw))
      · exact h
    · exact h
  · -- lastore
    split at h
    · rename_i hw
      split at h
      · rename_i h3
        have h3 := Nat.eq_of_beq_eq_true h3
        subst h3
        rw [pm_nth_eq] at hw
        intro H locs ls hP hD hS hL hK
        exact va_last hx hb (hK.at hw) hP hD hS _ 0 (pm_w_get hw) rfl h.1 hdg (fun H1 locs1 a1 a2 a3 => h.2 H1 locs1 ls (by rw [pm_w_set]; exact a1) (by rw [pm_w_set]; exact a2) a3 hL (hK.setA hw))
      · exact h
    · exact h
  · -- castore
    split at h
    · rename_i hw
      split at h
      · rename_i h3
        have h3 := Nat.eq_of_beq_eq_true h3
        subst h3
        rw [pm_nth_eq] at hw
        intro H locs ls hP hD hS hL hK
        exact va_cast hx hb (hK.at hw) hP hD hS _ 0 (pm_w_get hw) rfl h.1 hdg (fun H1 locs1 a1 a2 a3 => h.2 H1 locs1 ls (by rw [pm_w_set]; exact a1) (by rw [pm_w_set]; exact a2) a3 hL (hK.setA hw))
      · exact h
    · exact h
  · -- bastore
    split at h
    · rename_i hw
      split at h
      · rename_i h3
        have h3 := Nat.eq_of_beq_eq_true h3
        subst h3
        rw [pm_nth_eq] at hw
        intro H locs ls hP hD hS hL hK
        exact va_zast hx hb (hK.at hw) hP hD hS _ 0 (pm_w_get hw) rfl h.1 hdg (fun H1 locs1 a1 a2 a3 => h.2 H1 locs1 ls (by rw [pm_w_set]; exact a1) (by rw [pm_w_set]; exact a2) a3 hL (hK.setA hw))
      · exact h
    · exact h
  · -- dastore
    split at h
    · rename_i hw
      split at h
      · rename_i h3
        have h3 := Nat.eq_of_beq_eq_true h3
        subst h3
        rw [pm_nth_eq] at hw
        intro H locs ls hP hD hS hL hK
        exact va_dast hx hb (hK.at hw) hP hD hS _ 0 (pm_w_get hw) rfl h.1 hdg (fun H1 locs1 a1 a2 a3 => h.2 H1 locs1 ls (by rw [pm_w_set]; exact a1) (by rw [pm_w_set]; exact a2) a3 hL (hK.setA hw))
      · exact h
    · exact h
  · exact h
end PMC
end
section
section PMD
variable {p : Program} {l : Launch} {e : Env} {R : Room} {s : State} {m : MethodId} {args : Array Value} {below : List Frame} {meth : Method} {c : Code} {cells slots : Nat} {Q : State → Prop} {cc : ByteArray} {ad : Nat → Nat} {tI : Nat → ClassId} {nL : Nat} {D : va_G} {A : Nat → Prop} {own : String} {Ts : List Cond} {I : pm_I}
theorem pm_X.dec (X : pm_X p s m args c cc own Ts I) {pc n : Nat} {i : Instr} (h : pm_find I.1 pc = some (i, n)) : decode cc pc = .ok (i, n) := X.2.2.2.2.2.1 (pc, i, n) (pm_find_mem _ _ _ h)
set_option maxHeartbeats 1000000 in
theorem pm_do_ok (X : pm_X p s m args c cc own Ts I) (C : pm_C) (h : pm_ask (pm_W p l e R s m args below meth c nL D A ad tI cells slots Q) (pm_do I C) C) : pm_W p l e R s m args below meth c nL D A ad tI cells slots Q C := by
  obtain ⟨pc, L, st, w⟩ := C
  have hx := X.1
  have hb := X.2.1
  unfold pm_do at h
  dsimp only at h
  split at h
  · exact h
  · rename_i i n hf
    have hdg : decode cc pc = .ok (i, n) := X.dec hf
    split at h
    · rename_i kd ix len hld
      split at h
      · rename_i v hv
        split at h
        · rename_i hq
          simp only [Bool.and_eq_true] at hq
          have h1 := Nat.eq_of_beq_eq_true hq.1
          have h2 := Nat.eq_of_beq_eq_true hq.2
          subst h1; subst h2
          rw [pm_nth_eq] at hv
          intro H locs ls hP hD hS hL hK
          exact pm_ld_ok hx hb hld (hL.2.2.2 _ _ hv) hdg (h H locs ls hP hD hS hL hK)
        · exact h
      · exact h
    · split at h
      · rename_i kd ix len hst
        split at h
        · rename_i v r
          split at h
          · rename_i hq
            simp only [Bool.and_eq_true] at hq
            have h1 := Nat.eq_of_beq_eq_true hq.1.1
            have h2 := Nat.eq_of_beq_eq_true hq.1.2
            have h3 := Nat.le_of_ble_eq_true hq.2
            subst h1; subst h2
            split at h
            · rename_i hc
              have hc := Nat.eq_of_beq_eq_true hc
              intro H locs ls hP hD hS hL hK
              refine pm_st_ok hx hb hst hL (by rw [← hL.1]; exact h3) hdg (fun ls' h' => ?_)
              rw [if_pos hc] at h'
              exact h H locs ls' hP hD hS h' hK
            · rename_i hc
              have hc : ¬ v.category = 1 := fun z => by rw [z] at hc; cases hc
              intro H locs ls hP hD hS hL hK
              refine pm_st_ok hx hb hst hL (by rw [← hL.1]; exact h3) hdg (fun ls' h' => ?_)
              rw [if_neg hc] at h'
              exact h H locs ls' hP hD hS h' hK
          · exact h
        · exact h
      · split at h
        · rename_i k st' hk
          unfold pm_go at h
          split at h
          · rename_i hq
            have h1 := Nat.eq_of_beq_eq_true hq
            subst h1
            intro H locs ls hP hD hS hL hK
            exact pm_stk_ok hx hb hk hdg (h H locs ls hP hD hS hL hK)
          · exact h
        · split at h
          · rename_i k st' hk
            unfold pm_go at h
            split at h
            · rename_i hq
              have h1 := Nat.eq_of_beq_eq_true hq
              subst h1
              intro H locs ls hP hD hS hL hK
              exact pm_stk2_ok hx hb hk hdg (h H locs ls hP hD hS hL hK)
            · exact h
          · split at h
            · rename_i g k st' hk
              split at h
              · rename_i hq
                have h1 := Nat.eq_of_beq_eq_true hq
                subst h1
                intro H locs ls hP hD hS hL hK
                exact pm_gst_ok hx hb hk h.1 hdg (h.2 H locs ls hP hD hS hL hK)
              · exact h
            · split at h
              · rename_i q off st' hk
                split at h
                · rename_i hq
                  simp only [Bool.and_eq_true, decide_eq_true_eq] at hq
                  have h1 := Nat.eq_of_beq_eq_true hq.1
                  subst h1
                  intro H locs ls hP hD hS hL hK
                  exact pm_br_ok hx hb hk (Int.toNat_of_nonneg hq.2).symm hdg (fun z => h.1 z H locs ls hP hD hS hL hK) (fun z => h.2 z H locs ls hP hD hS hL hK)
                · exact h
              · exact pm_mem_ok X hdg h
theorem pm_wp_ok (X : pm_X p s m args c cc own Ts I) (stops : List Nat) : ∀ (n : Nat) (C : pm_C), pm_wp I stops (pm_W p l e R s m args below meth c nL D A ad tI cells slots Q) n C → pm_W p l e R s m args below meth c nL D A ad tI cells slots Q C
  | 0, C, h => h
  | n + 1, C, h => by
    have at' : ∀ C', pm_at stops (pm_W p l e R s m args below meth c nL D A ad tI cells slots Q) (pm_wp I stops (pm_W p l e R s m args below meth c nL D A ad tI cells slots Q) n) C' → pm_W p l e R s m args below meth c nL D A ad tI cells slots Q C' := fun C' h' => by
      unfold pm_at at h'
      split at h'
      · exact h'
      · exact pm_wp_ok X stops n C' h'
    refine pm_do_ok X C ?_
    unfold pm_wp at h
    unfold pm_ask
    split at h
    · exact h
    · exact at' _ h
    · exact ⟨h.1, at' _ h.2⟩
    · exact ⟨fun z => at' _ (h.1 z), fun z => at' _ (h.2 z)⟩
/-! what is carried besides the world -/
def pm_tb : List Cond := lw_tbl.filter goodWord
def pm_kind (w : Cond) : Bool := match w with
  | .castable _ _ => true
  | .declares _ => true
  | .fieldLinkNest _ _ _ _ _ _ => true
  | .methodLinkNest _ _ _ _ => true
  | _ => false
def pm_ng : List Cond := lw_tbl.filter pm_kind
def pm_strs : List (String × Nat × String) := [(RX5, 102, "a weight is 1 to 9"), (RX5, 131, "fewer than three kinds"), (RX5, 140, "no such tree was found"), (RX5, 182, "above is 0.5 to 1"), (RX5, 188, "no such tree"), (RX5, 190, "no such character"), (RX5, 192, "nothing is found"), (RX5, 56, "the text is full"), (RX5, 89, "no such kind or character")]
def pm_ncs : List (String × String) := [("java/lang/IllegalArgumentException", "java/lang/IndexOutOfBoundsException"), ("java/lang/IllegalArgumentException", "java/lang/IllegalStateException")]
def pm_G (A : Nat → Prop) (U : State) (H : Heap) : Prop := (∀ w ∈ pm_ng, va_Nw w U) ∧ (∃ sa : Nat → Nat, ∀ q ∈ pm_strs, vk_R q.1 q.2.1 q.2.2 (sa q.2.1) U) ∧ (∀ q ∈ pm_ncs, va_Nc q.1 q.2 U) ∧ vx_Zq Bundle.tN "UNASSIGNED_STACK" Bundle.steD A U H ∧ vx_Zq Bundle.tN "SUPPRESSED_SENTINEL" Bundle.listD A U H
theorem pm_Nw.warm {s U : State} (hW : s.WarmedH U.vm) {w : Cond} (hk : pm_kind w = true) (h : va_Nw w s) : va_Nw w U := by
  unfold pm_kind at hk
  split at hk
  · exact va_Nw.warmC hW h
  · exact va_Nw.warmD hW h
  · exact va_Nw.warmF hW h
  · exact va_Nw.warmM hW h
  · cases hk
theorem pm_G.warm {A B : Nat → Prop} {s U : State} (h : pm_G A s s.heap) (hW : s.WarmedH U.vm) (hS : ∀ q : Nat, q < s.heap.size → ¬ A q → U.heap[q]? = s.heap[q]?) (hAB : ∀ q, B q → A q) : pm_G B U U.heap := by
  obtain ⟨h1, ⟨sa, h2⟩, h3, h4, h5⟩ := h
  refine ⟨fun w hw => pm_Nw.warm hW (List.mem_filter.mp hw).2 (h1 w hw), ⟨sa, fun q hq => vk_R.warm hW (h2 q hq)⟩, fun q hq => ?_, ?_, ?_⟩
  · obtain ⟨a, b, g1, g2, g3⟩ := h3 q hq
    exact ⟨a, b, by rw [hW.alike.findClass]; exact g1, by rw [hW.alike.findClass]; exact g2, by rw [hW.alike.assignable]; exact g3⟩
  · exact ((h4.kept hS).moved hW.alike).narrow hAB
  · exact ((h5.kept hS).moved hW.alike).narrow hAB
theorem pm_G.calling {A : Nat → Prop} {U : State} (h : pm_G A U U.heap) (g : JFrame) (mk : MethodId) (a : Array Value) : pm_G A (U.calling g mk a) (U.calling g mk a).heap :=
  h.warm (U := U.calling g mk a) (State.WarmedH.refl U) (fun _ _ _ => rfl) (fun _ z => z)
def pm_A (ad : Nat → Nat) (n sz : Nat) : Nat → Prop := fun q => (∃ k, k < n ∧ q = ad k) ∨ sz ≤ q
def pm_inj (ad : Nat → Nat) (n : Nat) : Prop := ∀ i j, i < n → j < n → ad i = ad j → i = j
theorem pm_D {ad : Nat → Nat} {tI : Nat → ClassId} {w : List pm_E} {A : Nat → Prop} (hi : pm_inj ad w.length) (hA : ∀ k, k < w.length → A (ad k)) : va_D A (pm_w ad tI w) := by
  have key : ∀ (k : Nat) (q : Nat × va_E), (pm_w ad tI w)[k]? = some q → k < w.length ∧ q.1 = ad k := by
    intro k q hk
    have hl := (List.getElem?_eq_some_iff.mp hk).1
    rw [pm_w_len] at hl
    rw [pm_w_get (List.getElem?_eq_getElem hl)] at hk
    cases hk
    exact ⟨hl, rfl⟩
  refine ⟨fun i j x y hx hy hxy => ?_, fun k q hk => ?_⟩
  · obtain ⟨a1, a2⟩ := key i x hx
    obtain ⟨b1, b2⟩ := key j y hy
    exact hi i j a1 b1 (by rw [← a2, ← b2, hxy])
  · obtain ⟨a1, a2⟩ := key k q hk
    rw [a2]
    exact hA k a1
theorem pm_D.inj {ad : Nat → Nat} {tI : Nat → ClassId} {w : List pm_E} {A : Nat → Prop} (h : va_D A (pm_w ad tI w)) : pm_inj ad w.length := fun i j hi hj hij =>
  h.1 i j _ _ (pm_w_get (List.getElem?_eq_getElem hi)) (pm_w_get (List.getElem?_eq_getElem hj)) hij
/-- returned, or thrown -/
abbrev pm_O : Type := Option Value ⊕ String
def pm_end (D : va_G) (ad : Nat → Nat) (tI : Nat → ClassId) (n sz : Nat) (O : pm_O → List pm_E → Prop) (o : pm_O) (st t : State) : Prop := ∃ w', O o w' ∧ w'.length = n ∧ va_P D vwCl (pm_w ad tI w') t.heap ∧ pm_K D vwCl tI w' t ∧ va_F (pm_A ad n sz) st t
def pm_Pc (D : va_G) (ad : Nat → Nat) (tI : Nat → ClassId) (sz : Nat) (As : List Value) (w : List pm_E) : Array Value → State → Prop := va_Pc (As.map (pm_v ad)) (fun U => U.heap.size = sz ∧ va_P D vwCl (pm_w ad tI w) U.heap ∧ pm_K D vwCl tI w U ∧ pm_inj ad w.length ∧ pm_G (pm_A ad w.length sz) U U.heap)
def pm_Qc (D : va_G) (ad : Nat → Nat) (tI : Nat → ClassId) (n sz : Nat) (O : pm_O → List pm_E → Prop) : Array Value → State → Outcome → State → Prop := fun _ st oc t => ∃ v, oc = .returned (v.map (pm_v ad)) ∧ pm_end D ad tI n sz O (.inl v) st t
def pm_XC (D : va_G) (ad : Nat → Nat) (tI : Nat → ClassId) (n sz : Nat) (O : pm_O → List pm_E → Prop) : String → State → State → Prop := fun E st t => pm_end D ad tI n sz O (.inr E) st t
/-- name, code, locals, answer, own -/
abbrev pm_M : Type := MethodName × ByteArray × Nat × Option FieldType × String
def pm_ws (M : pm_M) : List Cond := Cond.code M.1 M.2.1 M.2.2.1 M.2.2.2.1 :: pm_tb
abbrev pm_rm (d mc ms : Nat) : Room := { frames := d, cells := mc, slots := ms, locals := 100 * d }
def pm_Met (l : Launch) (M : pm_M) (d mc ms : Nat) (As : List Value) (w : List pm_E) (O : pm_O → List pm_E → Prop) : Prop :=
  ∀ (D : va_G) (ad : Nat → Nat) (tI : Nat → ClassId) (sz : Nat), vx_Met l M.1 (pm_ws M) (pm_rm d mc ms) (pm_Pc D ad tI sz As w) (pm_Qc D ad tI w.length sz O) (pm_XC D ad tI w.length sz O) mc ms (pm_A ad w.length sz)
def pm_ctx (l : Launch) (M : pm_M) (I : pm_I) (n : Nat) (p : Program) (s : State) (m : MethodId) (args : Array Value) (meth : Method) (c : Code) (ad : Nat → Nat) : Prop :=
  pm_X p s m args c M.2.1 M.2.2.2.2 (pm_ws M) I ∧ c.maxLocals = M.2.2.1 ∧ meth.sig.returnType = M.2.2.2.1 ∧ meth.locks = false ∧ (∀ x ∈ c.exceptionTable.toList, False) ∧ pm_G (pm_A ad n s.heap.size) s s.heap ∧ l.stackTraces = false
/-- from the place C of M's body it comes to an end with O -/
def pm_J (l : Launch) (M : pm_M) (I : pm_I) (d mc ms n : Nat) (O : pm_O → List pm_E → Prop) (cells slots : Nat) (C : pm_C) : Prop :=
  ∀ (p : Program) (e : Env) (s : State) (m : MethodId) (args : Array Value) (below : List Frame) (meth : Method) (c : Code) (D : va_G) (ad : Nat → Nat) (tI : Nat → ClassId), pm_ctx l M I n p s m args meth c ad →
    pm_W p l e (pm_rm d mc ms) s m args below meth c M.2.2.1 D (pm_A ad n s.heap.size) ad tI cells slots (vx_MQ below (pm_Qc D ad tI n s.heap.size O) (pm_XC D ad tI n s.heap.size O) args s mc ms (pm_A ad n s.heap.size)) C
variable {M : pm_M} {d mc ms n : Nat} {O : pm_O → List pm_E → Prop}
theorem pm_wp_mono {I : pm_I} {stops : List Nat} {K K' : pm_C → Prop} (hK : ∀ C, K C → K' C) : ∀ (n : Nat) (C : pm_C), pm_wp I stops K n C → pm_wp I stops K' n C
  | 0, C, h => hK C h
  | n + 1, C, h => by
    have at' : ∀ C', pm_at stops K (pm_wp I stops K n) C' → pm_at stops K' (pm_wp I stops K' n) C' := fun C' h' => by
      unfold pm_at at h' ⊢
      split
      · rename_i hq; rw [hq] at h'; exact hK _ h'
      · rename_i hq; rw [hq] at h'; exact pm_wp_mono hK n C' h'
    unfold pm_wp at h ⊢
    split
    · rename_i hq; rw [hq] at h; exact hK _ h
    · rename_i hq; rw [hq] at h; exact at' _ h
    · rename_i hq; rw [hq] at h; exact ⟨h.1, at' _ h.2⟩
    · rename_i hq; rw [hq] at h; exact ⟨fun z => at' _ (h.1 z), fun z => at' _ (h.2 z)⟩
/-- a stretch -/
theorem pm_J.go (stops : List Nat) (k : Nat) {C : pm_C} (h : pm_wp I stops (pm_J l M I d mc ms n O cells slots) k C) : pm_J l M I d mc ms n O cells slots C := fun p e s m args below meth c D ad tI X =>
  pm_wp_ok X.1 stops k C (pm_wp_mono (fun C' h' => h' p e s m args below meth c D ad tI X) k C h)
theorem pm_J.ret {pc : Nat} {L : List (Option Value)} {w : List pm_E} {v : Int32} {ty : FieldType} (hd : pm_find I.1 pc = some (.ireturn, 1)) (hr : M.2.2.2.1 = some ty) (hn : narrow ty (.int v) = .int v) (hl : w.length = n) (hc : cells ≤ mc) (hs : slots ≤ ms) (hO : O (.inl (some (.int v))) w) : pm_J l M I d mc ms n O cells slots (pc, L, [.int v], w) := by
  intro p e s m args below meth c D ad tI X H locs ls hP hD hS hL hK
  refine vx_ret (W.widen hc hs (W.zret X.1.1 X.1.2.1 (X.2.2.1.trans hr) hn (fun t ht hW => ⟨some (.int v), rfl, w, hO, hl, by rw [ht]; exact hP, hK.moved hW.alike, hS.F ht⟩) hS.2.2 (X.1.dec hd) X.2.2.2.1))
theorem pm_J.retl {pc : Nat} {L : List (Option Value)} {w : List pm_E} {v : Int64} (hd : pm_find I.1 pc = some (.lreturn, 1)) (hr : M.2.2.2.1 = some .long) (hl : w.length = n) (hc : cells ≤ mc) (hs : slots ≤ ms) (hO : O (.inl (some (.long v))) w) : pm_J l M I d mc ms n O cells slots (pc, L, [.long v], w) := by
  intro p e s m args below meth c D ad tI X H locs ls hP hD hS hL hK
  refine vx_ret (W.widen hc hs (W.lret X.1.1 X.1.2.1 (X.2.2.1.trans hr) (fun t ht hW => ⟨some (.long v), rfl, w, hO, hl, by rw [ht]; exact hP, hK.moved hW.alike, hS.F ht⟩) hS.2.2 (X.1.dec hd) X.2.2.2.1))
theorem pm_J.retf {pc : Nat} {L : List (Option Value)} {w : List pm_E} {v : UInt32} (hd : pm_find I.1 pc = some (.freturn, 1)) (hr : M.2.2.2.1 = some .float) (hl : w.length = n) (hc : cells ≤ mc) (hs : slots ≤ ms) (hO : O (.inl (some (.float v))) w) : pm_J l M I d mc ms n O cells slots (pc, L, [.float v], w) := by
  intro p e s m args below meth c D ad tI X H locs ls hP hD hS hL hK
  refine vx_ret (W.widen hc hs (W.fret X.1.1 X.1.2.1 (X.2.2.1.trans hr) (fun t ht hW => ⟨some (.float v), rfl, w, hO, hl, by rw [ht]; exact hP, hK.moved hW.alike, hS.F ht⟩) hS.2.2 (X.1.dec hd) X.2.2.2.1))
theorem pm_J.retv {pc : Nat} {L : List (Option Value)} {w : List pm_E} (hd : pm_find I.1 pc = some (.return_, 1)) (hr : M.2.2.2.1 = none) (hl : w.length = n) (hc : cells ≤ mc) (hs : slots ≤ ms) (hO : O (.inl none) w) : pm_J l M I d mc ms n O cells slots (pc, L, [], w) := by
  intro p e s m args below meth c D ad tI X H locs ls hP hD hS hL hK
  refine vx_ret (W.widen hc hs (W.vret X.1.1 X.1.2.1 (X.2.2.1.trans hr) (fun t ht hW => ⟨none, rfl, w, hO, hl, by rw [ht]; exact hP, hK.moved hW.alike, hS.F ht⟩) hS.2.2 (X.1.dec hd) X.2.2.2.1))
end PMD
end
section
section PME
theorem pm_v_comp (ad f : Nat → Nat) (v : Value) : pm_v ad (pm_v f v) = pm_v (fun k => ad (f k)) v := by cases v <;> rfl
def pm_rc (f : Nat → Nat) : pm_E → pm_E
  | .inl a => .inl a
  | .inr o => .inr (o.1, o.2.map (pm_v f))
theorem pm_c_comp (ad f : Nat → Nat) (t : ClassId) (c : pm_E) : pm_c ad t (pm_rc f c) = pm_c (fun k => ad (f k)) t c := by
  cases c with
  | inl a => rfl
  | inr o => simp [pm_c, pm_rc, pm_v_comp]
def pm_rn (q : List Nat) (k : Nat) : Nat := match pm_nth q k with
  | some h => h
  | none => 0
/-- the callee's cells back in their places -/
def pm_bk (f : Nat → Nat) : List pm_E → List Nat → List pm_E → List pm_E
  | w, h :: q, c :: cs => pm_bk f (w.set h (pm_rc f c)) q cs
  | w, _, _ => w
theorem pm_bk_len (f : Nat → Nat) : ∀ (q : List Nat) (w cs : List pm_E), (pm_bk f w q cs).length = w.length
  | [], w, cs => by simp [pm_bk]
  | h :: q, w, [] => by simp [pm_bk]
  | h :: q, w, c :: cs => by rw [pm_bk, pm_bk_len f q, List.length_set]
theorem pm_bk_out (f : Nat → Nat) {k : Nat} : ∀ (q : List Nat) (w cs : List pm_E), k ∉ q → (pm_bk f w q cs)[k]? = w[k]?
  | [], w, cs, _ => by simp [pm_bk]
  | h :: q, w, [], _ => by simp [pm_bk]
  | h :: q, w, c :: cs, hk => by
    rw [pm_bk, pm_bk_out f q _ _ (fun z => hk (List.mem_cons_of_mem _ z)), List.getElem?_set_ne (fun z => hk (by rw [z]; exact List.mem_cons_self))]
theorem pm_nd {h : Nat} {q : List Nat} (hn : va_nd (h :: q) = true) : h ∉ q ∧ va_nd q = true := by
  simpa [va_nd] using hn
theorem pm_bk_in (f : Nat → Nat) {h : Nat} {c : pm_E} : ∀ (q : List Nat) (w cs : List pm_E) (k : Nat), va_nd q = true → q[k]? = some h → cs[k]? = some c → h < w.length → (pm_bk f w q cs)[h]? = some (pm_rc f c)
  | [], w, cs, k, _, hq, _, _ => by simp at hq
  | h0 :: q, w, [], k, _, _, hc, _ => by simp at hc
  | h0 :: q, w, c0 :: cs, 0, hn, hq, hc, hl => by
    simp only [List.getElem?_cons_zero, Option.some.injEq] at hq hc
    subst hq; subst hc
    rw [pm_bk, pm_bk_out f q _ _ (pm_nd hn).1, List.getElem?_set_self hl]
  | h0 :: q, w, c0 :: cs, k + 1, hn, hq, hc, hl => by
    rw [pm_bk]
    exact pm_bk_in f q _ cs k (pm_nd hn).2 (by simpa using hq) (by simpa using hc) (by simpa using hl)
theorem pm_rn_get {q : List Nat} {k h : Nat} (hq : q[k]? = some h) : pm_rn q k = h := by
  unfold pm_rn
  rw [pm_nth_eq, hq]
variable {p : Program} {l : Launch} {e : Env} {R : Room} {s : State} {m : MethodId} {args : Array Value} {below : List Frame} {meth : Method} {c : Code} {cells slots : Nat} {cc : ByteArray} {ad : Nat → Nat} {tI : Nat → ClassId} {nL : Nat} {D : va_G} {A : Nat → Prop} {I : pm_I} {M : pm_M} {d mc ms n : Nat} {O : pm_O → List pm_E → Prop}
/-- the callee's world lies in the caller's, at the places q -/
def pm_fits (q : List Nat) (w wc : List pm_E) : Prop := va_nd q = true ∧ q.map (fun h => pm_nth w h) = wc.map (fun c => some (pm_rc (pm_rn q) c))
theorem pm_fits.at {q : List Nat} {w wc : List pm_E} (h : pm_fits q w wc) {k : Nat} {c : pm_E} (hk : wc[k]? = some c) : ∃ h', q[k]? = some h' ∧ w[h']? = some (pm_rc (pm_rn q) c) := by
  have h1 : (q.map (fun h => pm_nth w h))[k]? = some (some (pm_rc (pm_rn q) c)) := by rw [h.2, List.getElem?_map, hk]; rfl
  rw [List.getElem?_map] at h1
  cases hq : q[k]? with
  | none => rw [hq] at h1; cases h1
  | some h' =>
    rw [hq] at h1
    exact ⟨h', rfl, by rw [← pm_nth_eq]; exact Option.some.inj h1⟩
theorem pm_fits.len {q : List Nat} {w wc : List pm_E} (h : pm_fits q w wc) : q.length = wc.length := by
  have := congrArg List.length h.2
  simpa using this
theorem pm_fits.lt {q : List Nat} {w wc : List pm_E} (h : pm_fits q w wc) {k : Nat} (hk : k < wc.length) : pm_rn q k < w.length ∧ q[k]? = some (pm_rn q k) ∧ w[pm_rn q k]? = some (pm_rc (pm_rn q) wc[k]) := by
  obtain ⟨h', g1, g2⟩ := h.at (List.getElem?_eq_getElem hk)
  rw [pm_rn_get g1]
  exact ⟨(List.getElem?_eq_some_iff.mp g2).1, g1, g2⟩
theorem pm_fits.P {q : List Nat} {w wc : List pm_E} (h : pm_fits q w wc) {H : Heap} (hP : va_P D vwCl (pm_w ad tI w) H) : va_P D vwCl (pm_w (fun k => ad (pm_rn q k)) (fun k => tI (pm_rn q k)) wc) H := by
  intro k x hk
  have hl := (List.getElem?_eq_some_iff.mp hk).1
  rw [pm_w_len] at hl
  rw [pm_w_get (List.getElem?_eq_getElem hl)] at hk
  cases hk
  obtain ⟨g1, g2, g3⟩ := h.lt hl
  have := hP _ _ (pm_w_get g3)
  rw [pm_c_comp] at this
  exact this
theorem pm_fits.K {q : List Nat} {w wc : List pm_E} (h : pm_fits q w wc) {U : State} (hK : pm_K D vwCl tI w U) : pm_K D vwCl (fun k => tI (pm_rn q k)) wc U := by
  refine ⟨hK.1, fun k a hk => ?_⟩
  have hl := (List.getElem?_eq_some_iff.mp hk).1
  obtain ⟨g1, g2, g3⟩ := h.lt hl
  have e1 : wc[k] = .inl a := (List.getElem?_eq_some_iff.mp hk).2
  rw [e1] at g3
  exact hK.2 _ a g3
theorem pm_fits.inj {q : List Nat} {w wc : List pm_E} (h : pm_fits q w wc) (hi : pm_inj ad w.length) : pm_inj (fun k => ad (pm_rn q k)) wc.length := by
  intro i j hi' hj' hij
  obtain ⟨g1, g2, -⟩ := h.lt hi'
  obtain ⟨k1, k2, -⟩ := h.lt hj'
  have e := hi _ _ g1 k1 hij
  rw [e] at g2
  exact va_nd_inj q h.1 i j _ g2 k2
theorem pm_fits.fr {q : List Nat} {w wc : List pm_E} (h : pm_fits q w wc) {sz sz' : Nat} (hs : sz ≤ sz') : ∀ x, pm_A (fun k => ad (pm_rn q k)) wc.length sz' x → pm_A ad w.length sz x := by
  intro x hx
  rcases hx with ⟨k, hk, rfl⟩ | hx
  · exact Or.inl ⟨_, (h.lt hk).1, rfl⟩
  · exact Or.inr (Nat.le_trans hs hx)
/-- behind a call -/
theorem pm_fits.back {q : List Nat} {w wc w1 : List pm_E} (h : pm_fits q w wc) {H H1 : Heap} {u : State} (hP : va_P D vwCl (pm_w ad tI w) H) (hi : pm_inj ad w.length) (hl : w1.length = wc.length)
    (hP1 : va_P D vwCl (pm_w (fun k => ad (pm_rn q k)) (fun k => tI (pm_rn q k)) w1) H1) (hk : ∀ x : Nat, x < H.size → ¬ pm_A (fun k => ad (pm_rn q k)) wc.length H.size x → H1[x]? = H[x]?)
    (hK : pm_K D vwCl tI w u) (hK1 : pm_K D vwCl (fun k => tI (pm_rn q k)) w1 u) : va_P D vwCl (pm_w ad tI (pm_bk (pm_rn q) w q w1)) H1 ∧ pm_K D vwCl tI (pm_bk (pm_rn q) w q w1) u := by
  have key : ∀ k, k < w.length → (k ∉ q ∧ (pm_bk (pm_rn q) w q w1)[k]? = w[k]?) ∨ ∃ j, ∃ hj : j < w1.length, k = pm_rn q j ∧ (pm_bk (pm_rn q) w q w1)[k]? = some (pm_rc (pm_rn q) w1[j]) := by
    intro k hk'
    by_cases hm : k ∈ q
    · obtain ⟨j, hj⟩ := List.getElem?_of_mem hm
      have lj := (List.getElem?_eq_some_iff.mp hj).1
      rw [h.len, ← hl] at lj
      exact Or.inr ⟨j, lj, (pm_rn_get hj).symm, pm_bk_in _ q w w1 j h.1 hj (List.getElem?_eq_getElem lj) hk'⟩
    · exact Or.inl ⟨hm, pm_bk_out _ q w w1 hm⟩
  refine ⟨fun k x hx => ?_, hK.1, fun k a ha => ?_⟩
  · have hkl := (List.getElem?_eq_some_iff.mp hx).1
    rw [pm_w_len, pm_bk_len] at hkl
    rcases key k hkl with ⟨hm, hg⟩ | ⟨j, hj, rfl, hg⟩
    · rw [List.getElem?_eq_getElem hkl] at hg
      rw [pm_w_get hg] at hx
      cases hx
      have hat := hP _ _ (pm_w_get (List.getElem?_eq_getElem hkl))
      refine hat.kept (hk _ hat.lt (fun z => ?_))
      rcases z with ⟨j, hj, hz⟩ | z
      · obtain ⟨g1, g2, -⟩ := h.lt hj
        have := hi _ _ hkl g1 hz
        exact hm (by rw [this]; exact List.mem_of_getElem? g2)
      · exact absurd hat.lt (Nat.not_lt.mpr z)
    · rw [pm_w_get hg] at hx
      cases hx
      have hat := hP1 _ _ (pm_w_get (List.getElem?_eq_getElem hj))
      rw [pm_c_comp]
      exact hat
  · have hkl := (List.getElem?_eq_some_iff.mp ha).1
    rw [pm_bk_len] at hkl
    rcases key k hkl with ⟨hm, hg⟩ | ⟨j, hj, rfl, hg⟩
    · rw [hg] at ha
      exact hK.2 k a ha
    · rw [hg] at ha
      have e1 : w1[j] = .inl a := by
        cases hw : w1[j] with
        | inl b => rw [hw] at ha; cases ha; rfl
        | inr o => rw [hw] at ha; cases ha
      exact hK1.2 j a (by rw [List.getElem?_eq_getElem hj, e1])
theorem pm_ws_mem {M : pm_M} {w : Cond} (h : w ∈ pm_tb) : w ∈ pm_ws M := List.mem_cons_of_mem _ h
theorem pm_tb_good {w : Cond} (h : w ∈ pm_tb) : (w.onTables && w.keeps) = true ∨ ∃ ty, w = .arrayClass ty := good_of_word (List.mem_filter.mp h).2
theorem pm_good {M : pm_M} {ws : List Cond} (h : ∀ x ∈ ws, x ∈ pm_tb) : GoodIn (pm_ws M) ws := fun w hw => ⟨pm_ws_mem (h w hw), pm_tb_good (h w hw)⟩
/-- behind a call, returned or thrown: the caller goes on -/
theorem pm_after {q : List Nat} {w wc : List pm_E} (hf : pm_fits q w wc) (hn : w.length = n) {O' : pm_O → List pm_E → Prop} {o : pm_O} {H : Heap} {locs L : List Loc} {st0 t T' : State} (hst : st0.heap = H)
    (hP : va_P D vwCl (pm_w ad tI w) H) (hD : va_D (pm_A ad n s.heap.size) (pm_w ad tI w)) (hS : va_S (pm_A ad n s.heap.size) s.heap H locs) (hK : pm_K D vwCl tI w s) (hvm : s.vm.Alike t.vm) (e1 : T'.heap = t.heap)
    (hL : ∀ z ∈ L, pm_A (fun k => ad (pm_rn q k)) wc.length H.size z.base) (he : pm_end D (fun k => ad (pm_rn q k)) (fun k => tI (pm_rn q k)) wc.length H.size O' o st0 t) :
    ∃ w1, O' o w1 ∧ w1.length = wc.length ∧ va_P D vwCl (pm_w ad tI (pm_bk (pm_rn q) w q w1)) T'.heap ∧ va_D (pm_A ad n s.heap.size) (pm_w ad tI (pm_bk (pm_rn q) w q w1)) ∧ va_S (pm_A ad n s.heap.size) s.heap T'.heap (locs ++ L) ∧ pm_K D vwCl tI (pm_bk (pm_rn q) w q w1) s := by
  obtain ⟨w1, hO, hl, hP1, hK1, hz, hk⟩ := he
  subst hn
  rw [hst] at hz hk
  have hi := pm_D.inj hD
  obtain ⟨g1, g2⟩ := hf.back (H1 := T'.heap) hP hi hl (by rw [e1]; exact hP1) (fun x h1 h2 => by rw [e1]; exact hk x h1 h2) hK (hK1.moved hvm.symm)
  refine ⟨w1, hO, hl, g1, pm_D (by rw [pm_bk_len]; exact hi) (fun k hk' => Or.inl ⟨k, by rw [pm_bk_len] at hk'; exact hk', rfl⟩), ⟨Nat.le_trans hS.1 (by rw [e1]; exact hz), fun x h1 h2 => ?_, fun z hz' => ?_⟩, g2⟩
  · rw [e1, hk x (Nat.lt_of_lt_of_le h1 hS.1) (fun z => h2 (hf.fr hS.1 x z))]
    exact hS.2.1 x h1 h2
  · rcases List.mem_append.mp hz' with h1 | h1
    · exact hS.2.2 z h1
    · exact hf.fr hS.1 _ (hL z h1)
/-- what a callee asks of its start -/
theorem pm_start {q : List Nat} {w wc : List pm_E} (hf : pm_fits q w wc) (hn : w.length = n) {H : Heap} {locs : List Loc} (hP : va_P D vwCl (pm_w ad tI w) H) (hD : va_D (pm_A ad n s.heap.size) (pm_w ad tI w)) (hS : va_S (pm_A ad n s.heap.size) s.heap H locs) (hK : pm_K D vwCl tI w s)
    (hG : pm_G (pm_A ad n s.heap.size) s s.heap) (As : List Value) : FrameBlind (pm_Pc D (fun k => ad (pm_rn q k)) (fun k => tI (pm_rn q k)) H.size As wc) ∧ ∀ U : State, U.heap = H → s.WarmedH U.vm → pm_Pc D (fun k => ad (pm_rn q k)) (fun k => tI (pm_rn q k)) H.size As wc (As.map (pm_v (fun k => ad (pm_rn q k)))).toArray U := by
  refine ⟨fun a U g mk h => ?_, fun U hU hW => ?_⟩
  · obtain ⟨h1, h2, h3, h4, h5, h6⟩ := h
    exact ⟨h1, h2, h3, h4.moved (Vm.Alike.refl U.vm), h5, h6.calling g mk a⟩
  · subst hn
    refine ⟨rfl, by rw [hU], by rw [hU]; exact hf.P hP, (hf.K hK).moved hW.alike, hf.inj (pm_D.inj hD), ?_⟩
    exact hG.warm hW (fun x h1 h2 => by rw [hU]; exact hS.2.1 x h1 h2) (fun x hx => hf.fr hS.1 x hx)
theorem pm_map_comp (ad f : Nat → Nat) (l : List Value) : (l.map (pm_v f)).map (pm_v ad) = l.map (pm_v (fun k => ad (f k))) := by
  rw [List.map_map]
  exact List.map_congr_left (fun v _ => pm_v_comp ad f v)
theorem pm_cats (ad : Nat → Nat) (l : List Value) : ((l.map (pm_v ad)).map fun v => v.category) = l.map Value.category := by
  rw [List.map_map]
  exact List.map_congr_left (fun v _ => pm_cat ad v)
/-- a virtual call of a method that may throw: what it throws goes on to the caller's caller -/
theorem pm_J.call {pc ix ci k0 d' mc' ms' : Nat} {L : List (Option Value)} {st rest As : List Value} {w wc : List pm_E} {M' : pm_M} {O' : pm_O → List pm_E → Prop} {fs : List Value} {qc : vw_C} (q : List Nat)
    (hM : pm_Met l M' d' mc' ms' (.ref k0 :: As) wc O') (hd : pm_find I.1 pc = some (.invokevirtual ix, 3))
    (hw : ∀ x ∈ wsV M.2.2.2.2 ix qc.1 M'.1 [Cond.code M'.1 M'.2.1 M'.2.2.1 M'.2.2.2.1], x ∈ pm_tb)
    (hy : M'.1.cls = qc.1 ∧ M'.1.cls ≠ "java/lang/invoke/MethodHandle" ∧ M'.1.cls ≠ "java/lang/invoke/VarHandle" ∧ (parseMethodDescriptor M'.1.desc).map (fun d => d.parameters.length) = some As.length)
    (hst : st = ((Value.ref k0 :: As).map (pm_v (pm_rn q))).reverse ++ rest) (hf : pm_fits q w wc) (hn : w.length = n) (hr : wc[k0]? = some (.inr (ci, fs))) (hqc : vwCl[ci]? = some qc)
    (hrest : (rest.map Value.category).sum ≤ 8) (hdd : d' + 1 ≤ d) (hml : M'.2.2.1 ≤ 81) (hmc : cells + mc' ≤ mc) (hms : slots + ms' ≤ ms)
    (kx : ∀ E w1, O' (.inr E) w1 → w1.length = wc.length → O (.inr E) (pm_bk (pm_rn q) w q w1))
    (kr : ∀ v w1, O' (.inl v) w1 → w1.length = wc.length → pm_J l M I d mc ms n O (cells + mc') (slots + ms') (pc + 3, L, (v.map (pm_v (pm_rn q))).toList ++ rest, pm_bk (pm_rn q) w q w1)) :
    pm_J l M I d mc ms n O cells slots (pc, L, st, w) := by
  intro p e s m args below meth c D ad tI X H locs ls hP hD hS hL hK
  obtain ⟨X1, Xml, Xr, Xlk, Xt, XG, Xl⟩ := id X
  have hdg := X1.dec hd
  obtain ⟨hb1, hpre⟩ := pm_start hf hn hP hD hS hK XG (.ref k0 :: As)
  subst hst
  have hrun := vx_runV (g := F0 m pc ls ((((Value.ref k0 :: As).map (pm_v (pm_rn q))).reverse ++ rest).map (pm_v ad))) (rest := rest.map (pm_v ad)) (As := As.map (pm_v (fun k => ad (pm_rn q k)))) (b := ad (pm_rn q k0)) (cells := cells) (slots := slots) (locs := locs) (below := below) (meth := meth) (e := e) (H := H) (R := pm_rm d mc ms)
    (⟨X1.1, X1.2.1, Xml, X1.2.2.1, X1.2.2.2.1⟩ : CallFix p m c M.2.1 M.2.2.1 s args (pm_ws M) M.2.2.2.2) (hM D (fun k => ad (pm_rn q k)) (fun k => tI (pm_rn q k)) H.size)
    (cwV As.length X1.2.2.2.1 (C := qc.1) (fun x hx => by
      unfold wsV at hx
      rcases List.mem_append.mp hx with h | h
      · exact pm_good hw x (by unfold wsV; exact List.mem_append_left _ h)
      · rcases List.mem_cons.mp h with h | h
        · exact pm_good hw x (by unfold wsV; rw [h]; exact List.mem_append_right _ List.mem_cons_self)
        · exact ⟨pm_ws_mem h, pm_tb_good h⟩) rfl rfl rfl hy ⟨hdd, by show 8 + (M'.2.2.1 + 11) + 100 * d' ≤ 100 * d; omega⟩)
    ⟨hb1, va_recv (hf.K hK).obj (hf.P hP) hqc (pm_w_get hr), hpre⟩ rfl (by simp) hL.2.1
    (by show List.map (pm_v ad) _ = _
        rw [List.map_append, List.map_reverse, pm_map_comp]
        simp [pm_v]) (lv_room (by rw [pm_cats]; exact hrest)) hdg ⟨hmc, hms⟩
  intro T hT XT
  rcases hrun T hT XT with ⟨v, st₀, t, T', L', h0, X', hL', e1, e2, ⟨v', hv', he⟩, hgo⟩ | ⟨qx, st₀, t, T', L', E, ce, h0, X', hL', e1, e2, he, hce, hcv, hcl, hgo⟩
  · have hvm : s.vm.Alike t.vm := by rw [← e2]; exact X'.warmed.alike
    obtain ⟨w1, hO, hl1, a1, a2, a3, a4⟩ := pm_after hf hn h0 hP hD hS hK hvm e1 hL' he
    obtain ⟨t2, b1, b2⟩ := kr v' w1 hO hl1 p e s m args below meth c D ad tI X T'.heap (locs ++ L') ls a1 a2 a3 hL a4 T' rfl X'
    refine ⟨t2, hgo t2 ?_, b2⟩
    cases hv'
    have : (List.map (pm_v ad) ((v'.map (pm_v (pm_rn q))).toList ++ rest)) = (v'.map (pm_v (fun k => ad (pm_rn q k)))).toList ++ rest.map (pm_v ad) := by
      cases v' with
      | none => rfl
      | some z => simp [pm_v_comp]
    dsimp only at b1
    rw [this] at b1
    exact b1
  · have hvm : s.vm.Alike t.vm := by rw [← e2]; exact X'.warmed.alike
    obtain ⟨w1, hO, hl1, a1, a2, a3, a4⟩ := pm_after hf hn h0 hP hD hS hK hvm e1 hL' he
    have hout := vx_out (p := p) (l := l) (e := e) (R := pm_rm d mc ms) (below := below) (cells := cells + mc') (slots := slots + ms') (pc := pc) (ls := ls) (rest := rest.map (pm_v ad)) (Qc := pm_Qc D ad tI n s.heap.size O) (XC := pm_XC D ad tI n s.heap.size O) (free := pm_A ad n s.heap.size) (mc := mc) (ms := ms) (args := args) (s := s) (m := m) (E := E) (ce := ce) (q := qx) (H := T'.heap) (locs := locs ++ L')
      (fun x hx => absurd (Xt x hx) id) Xlk (by rw [e1]; exact hce) hcv hcl
      (fun t9 ht9 hW9 => ⟨pm_bk (pm_rn q) w q w1, kx E w1 hO hl1, by rw [pm_bk_len]; exact hn, by rw [ht9]; exact a1, a4.moved hW9, a3.F ht9⟩) a3.2.2 hmc hms T' rfl X'
    obtain ⟨t2, b1, b2⟩ := hout
    exact ⟨t2, hgo.trans b1, b2⟩
end PME
end
section
section PMF
variable {l : Launch} {I : pm_I} {M : pm_M} {d mc ms n : Nat} {O : pm_O → List pm_E → Prop}
def pm_ent : Nat → List Value → List (Option Value)
  | n, [] => List.replicate n none
  | n, v :: vs => match Nat.beq v.category 2 with
    | true => some v :: none :: pm_ent (n - 2) vs
    | false => some v :: pm_ent (n - 1) vs
theorem pm_ent_len : ∀ (vs : List Value) (n : Nat), (vs.map Value.category).sum ≤ n → (pm_ent n vs).length = n
  | [], n, _ => by simp [pm_ent]
  | v :: vs, n, h => by
    simp only [List.map_cons, List.sum_cons] at h
    unfold pm_ent
    split
    · rename_i hc
      have hc := Nat.eq_of_beq_eq_true hc
      rw [List.length_cons, List.length_cons, pm_ent_len vs (n - 2) (by omega)]
      omega
    · rename_i hc
      have h1 : v.category = 1 := by
        rcases lv_cat v with h | h
        · exact h
        · rw [h] at hc; cases hc
      rw [List.length_cons, pm_ent_len vs (n - 1) (by omega)]
      omega
theorem pm_ent_get (ad : Nat → Nat) : ∀ (vs : List Value) (n i off : Nat) (v : Value), (pm_ent n vs)[i]? = some (some v) → (off + i, pm_v ad v) ∈ lv_args off (vs.map (pm_v ad))
  | [], n, i, off, v, h => by
    simp only [pm_ent, List.getElem?_replicate] at h
    split at h <;> simp at h
  | u :: vs, n, i, off, v, h => by
    unfold pm_ent at h
    show (off + i, pm_v ad v) ∈ (off, pm_v ad u) :: lv_args (if (pm_v ad u).category = 2 then off + 2 else off + 1) (vs.map (pm_v ad))
    rw [pm_cat]
    split at h
    · rename_i hc
      rw [if_pos (Nat.eq_of_beq_eq_true hc)]
      match i with
      | 0 => simp at h; subst h; exact List.mem_cons_self
      | 1 => simp at h
      | i + 2 =>
        refine List.mem_cons_of_mem _ ?_
        have := pm_ent_get ad vs (n - 2) i (off + 2) v (by simpa using h)
        rwa [show off + 2 + i = off + (i + 2) by omega] at this
    · rename_i hc
      rw [if_neg (fun z => by rw [z] at hc; cases hc)]
      match i with
      | 0 => simp at h; subst h; exact List.mem_cons_self
      | i + 1 =>
        refine List.mem_cons_of_mem _ ?_
        have := pm_ent_get ad vs (n - 1) i (off + 1) v (by simpa using h)
        rwa [show off + 1 + i = off + (i + 1) by omega] at this
theorem pm_sl_len (ad : Nat → Nat) : ∀ (vs : List Value), (lg_sl (vs.map (pm_v ad))).length = (vs.map Value.category).sum
  | [] => rfl
  | v :: vs => by
    have ih := pm_sl_len ad vs
    unfold lg_sl at ih ⊢
    simp only [List.map_cons, List.flatMap_cons, List.length_append, List.sum_cons, ih, pm_cat]
    rcases lv_cat v with h | h <;> simp [h]
/-- the tables' part of what a body needs, by program -/
def pm_Ib (M : pm_M) (I : pm_I) : Bool :=
  I.1.all (fun x => decide (decode M.2.1 x.1 = .ok x.2)) &&
  (I.2.1.all (fun x => match pm_nth vwCl x.2.2.1 with
    | some q => Nat.blt x.2.2.2 q.2.2 && (match x.2.1 with
      | false => decide (Cond.fieldLink M.2.2.2.2 x.1 (q.2.1 x.2.2.2).1 (q.2.1 x.2.2.2).2.1 (q.2.1 x.2.2.2).2.2.1 ∈ pm_tb)
      | true => decide (Cond.fieldLinkNest M.2.2.2.2 x.1 (q.2.1 x.2.2.2).1 (q.2.1 x.2.2.2).2.1 (q.2.1 x.2.2.2).2.2.1 "ShortTrees" ∈ pm_ng))
    | none => false) &&
  (I.2.2.all (fun x => match x.2 with
    | .int v => decide (Cond.constant M.2.2.2.2 x.1 v ∈ pm_tb)
    | .float v => decide (Cond.constantFloat M.2.2.2.2 x.1 v ∈ pm_tb)
    | .long v => decide (Cond.constantLong M.2.2.2.2 x.1 v ∈ pm_tb)
    | _ => false)))
theorem pm_lay0 : ∀ w ∈ u_ws RX0 TX0 3, w ∈ pm_tb := by decide +kernel
theorem pm_lay1 : ∀ w ∈ u_ws RX1 TX1 4, w ∈ pm_tb := by decide +kernel
theorem pm_lay2 : ∀ w ∈ u_ws RX2 TX2 4, w ∈ pm_tb := by decide +kernel
theorem pm_lay3 : ∀ w ∈ u_ws RX3 TX3 3, w ∈ pm_tb := by decide +kernel
theorem pm_lay4 : ∀ w ∈ u_ws RX4 TX4 7, w ∈ pm_tb := by decide +kernel
theorem pm_lay5 : ∀ w ∈ u_ws RX5 TX5 7, w ∈ pm_tb := by decide +kernel
theorem pm_lay6 : ∀ w ∈ u_ws RX6 TX6 27, w ∈ pm_tb := by decide +kernel
theorem pm_lay : ∀ (ci : Nat) (q : vw_C), vwCl[ci]? = some q → ∀ w ∈ u_ws q.1 q.2.1 q.2.2, w ∈ pm_tb
  | 0, q, h => by cases h; exact pm_lay0
  | 1, q, h => by cases h; exact pm_lay1
  | 2, q, h => by cases h; exact pm_lay2
  | 3, q, h => by cases h; exact pm_lay3
  | 4, q, h => by cases h; exact pm_lay4
  | 5, q, h => by cases h; exact pm_lay5
  | 6, q, h => by cases h; exact pm_lay6
  | n + 7, q, h => by simp [vwCl] at h
theorem pm_Ib_X (h : pm_Ib M I = true) {p : Program} {s : State} {m : MethodId} {args : Array Value} {c : Code} {A : Nat → Prop} {H : Heap} (hx : p.tables.exec = Jvm.exec) (hb : c.code = M.2.1) (hown : s.vm.findClass M.2.2.2.2 = some m.cls) (hts : ∀ w ∈ pm_ws M, w.before args s = true) (hG : pm_G A s H) :
    pm_X p s m args c M.2.1 M.2.2.2.2 (pm_ws M) I := by
  unfold pm_Ib at h
  simp only [Bool.and_eq_true, List.all_eq_true] at h
  obtain ⟨h1, h2, h3⟩ := h
  refine ⟨hx, hb, hown, hts, fun ci q hq w hw => pm_ws_mem (pm_lay ci q hq w hw), fun x hx' => of_decide_eq_true (h1 x hx'), fun x hx' => ?_, fun x hx' => ?_⟩
  · have h4 := h2 x hx'
    rw [pm_nth_eq] at h4
    split at h4
    · rename_i q hq
      simp only [Bool.and_eq_true] at h4
      refine ⟨q, hq, Nat.blt_eq.mp h4.1, ?_⟩
      have h5 := h4.2
      split at h5
      · exact Or.inl (hts _ (pm_ws_mem (of_decide_eq_true h5)))
      · exact Or.inr ⟨_, va_Nw.use rfl (hG.1 _ (of_decide_eq_true h5))⟩
    · cases h4
  · have h4 := h3 x hx'
    unfold pm_cok
    split at h4
    · rename_i hv; rw [hv]; exact hts _ (pm_ws_mem (of_decide_eq_true h4))
    · rename_i hv; rw [hv]; exact hts _ (pm_ws_mem (of_decide_eq_true h4))
    · rename_i hv; rw [hv]; exact hts _ (pm_ws_mem (of_decide_eq_true h4))
    · cases h4
/-- a contract out of its body -/
theorem pm_Met.of {As : List Value} {w : List pm_E} (hI : pm_Ib M I = true) (hy : plainName M.1.cls = true) (ho : M.1.cls = M.2.2.2.2) (hst : l.stackTraces = false) (hA : (As.map Value.category).sum ≤ M.2.2.1) (hj : pm_J l M I d mc ms w.length O 0 0 (0, pm_ent M.2.2.1 As, [], w)) : pm_Met l M d mc ms As w O := by
  intro D ad tI sz
  refine vx_ofW (cc := M.2.1) (maxL := M.2.2.1) (ret := M.2.2.2.1) hy rfl ?_
  intro p e s m args below meth c s₁ B hml ht hv
  obtain ⟨rfl, rfl, hP, hK, hinj, hG⟩ := hv
  have hts := atoms_spec (ws := pm_ws M) B.pre
  have hown : s.vm.findClass M.2.2.2.2 = some m.cls := by rw [← ho]; exact findClass_of_methodNamed B.named
  have X := pm_Ib_X hI B.exec B.bytes hown hts hG
  have hl := lv_entry (As.map (pm_v ad)) (n := M.2.2.1) (by rw [pm_sl_len]; exact hA)
  rw [lg_entry_eq]
  exact hj p e s m _ below meth c D ad tI ⟨X, hml, B.returns, B.notSynchronized, ht, hG, hst⟩ s.heap [] _ hP (pm_D hinj (fun k hk => Or.inl ⟨k, hk, rfl⟩)) va_S.rf
    ⟨pm_ent_len _ _ hA, hl.1, hl.2.1, fun i v hv => hl.2.2 (i, pm_v ad v) (by have := pm_ent_get ad As M.2.2.1 i 0 v hv; rwa [Nat.zero_add] at this)⟩ hK
end PMF
end
section
section PMG
variable {l : Launch} {I : pm_I} {M : pm_M} {d mc ms n : Nat} {O : pm_O → List pm_E → Prop} {cells slots : Nat}
/-- a static call -/
theorem pm_J.calls {pc ix d' mc' ms' : Nat} {L : List (Option Value)} {st rest As : List Value} {w wc : List pm_E} {M' : pm_M} {O' : pm_O → List pm_E → Prop} (q : List Nat)
    (hM : pm_Met l M' d' mc' ms' As wc O') (hd : pm_find I.1 pc = some (.invokestatic ix, 3))
    (hw : ∀ x ∈ [Cond.methodLink M.2.2.2.2 ix M'.1, Cond.static M'.1, Cond.initialized M'.1.cls, Cond.code M'.1 M'.2.1 M'.2.2.1 M'.2.2.2.1], x ∈ pm_tb)
    (hy : M'.1.cls ≠ "java/lang/invoke/MethodHandle" ∧ M'.1.cls ≠ "java/lang/invoke/VarHandle" ∧ (parseMethodDescriptor M'.1.desc).map (fun d => d.parameters.length) = some As.length)
    (hst : st = (As.map (pm_v (pm_rn q))).reverse ++ rest) (hf : pm_fits q w wc) (hn : w.length = n)
    (hrest : (rest.map Value.category).sum ≤ 8) (hdd : d' + 1 ≤ d) (hml : M'.2.2.1 ≤ 81) (hmc : cells + mc' ≤ mc) (hms : slots + ms' ≤ ms)
    (kx : ∀ E w1, O' (.inr E) w1 → w1.length = wc.length → O (.inr E) (pm_bk (pm_rn q) w q w1))
    (kr : ∀ v w1, O' (.inl v) w1 → w1.length = wc.length → pm_J l M I d mc ms n O (cells + mc') (slots + ms') (pc + 3, L, (v.map (pm_v (pm_rn q))).toList ++ rest, pm_bk (pm_rn q) w q w1)) :
    pm_J l M I d mc ms n O cells slots (pc, L, st, w) := by
  intro p e s m args below meth c D ad tI X H locs ls hP hD hS hL hK
  obtain ⟨X1, Xml, Xr, Xlk, Xt, XG, Xl⟩ := id X
  have hdg := X1.dec hd
  obtain ⟨hb1, hpre⟩ := pm_start hf hn hP hD hS hK XG As
  subst hst
  have hwb : ∀ x ∈ [Cond.methodLink M.2.2.2.2 ix M'.1, Cond.static M'.1, Cond.initialized M'.1.cls, Cond.code M'.1 M'.2.1 M'.2.2.1 M'.2.2.2.1], x.before args s = true := fun x hx => X1.2.2.2.1 x (pm_ws_mem (hw x hx))
  have hrun := vx_runS (g := F0 m pc ls (((As.map (pm_v (pm_rn q))).reverse ++ rest).map (pm_v ad))) (rest := rest.map (pm_v ad)) (As := As.map (pm_v (fun k => ad (pm_rn q k)))) (cells := cells) (slots := slots) (locs := locs) (below := below) (meth := meth) (e := e) (H := H) (R := pm_rm d mc ms)
    (⟨X1.1, X1.2.1, Xml, X1.2.2.1, X1.2.2.2.1⟩ : CallFix p m c M.2.1 M.2.2.1 s args (pm_ws M) M.2.2.2.2) (hM D (fun k => ad (pm_rn q k)) (fun k => tI (pm_rn q k)) H.size)
    ⟨callB_of As.length X1.2.2.2.1 (fun x hx => by
        rcases List.mem_cons.mp hx with h | h
        · exact pm_good hw x (by rw [h]; simp)
        · exact ⟨pm_ws_mem h, pm_tb_good h⟩) rfl rfl rfl (hwb _ (by simp)) (hwb _ (by simp)) hy ⟨hdd, by show 8 + (M'.2.2.1 + 11) + 100 * d' ≤ 100 * d; omega⟩, hwb _ (by simp)⟩
    ⟨hb1, hpre⟩ rfl (by simp) hL.2.1
    (by show List.map (pm_v ad) _ = _
        rw [List.map_append, List.map_reverse, pm_map_comp]) (lv_room (by rw [pm_cats]; exact hrest)) hdg ⟨hmc, hms⟩
  intro T hT XT
  rcases hrun T hT XT with ⟨v, st₀, t, T', L', h0, X', hL', e1, e2, ⟨v', hv', he⟩, hgo⟩ | ⟨qx, st₀, t, T', L', E, ce, h0, X', hL', e1, e2, he, hce, hcv, hcl, hgo⟩
  · have hvm : s.vm.Alike t.vm := by rw [← e2]; exact X'.warmed.alike
    obtain ⟨w1, hO, hl1, a1, a2, a3, a4⟩ := pm_after hf hn h0 hP hD hS hK hvm e1 hL' he
    obtain ⟨t2, b1, b2⟩ := kr v' w1 hO hl1 p e s m args below meth c D ad tI X T'.heap (locs ++ L') ls a1 a2 a3 hL a4 T' rfl X'
    refine ⟨t2, hgo t2 ?_, b2⟩
    cases hv'
    have : (List.map (pm_v ad) ((v'.map (pm_v (pm_rn q))).toList ++ rest)) = (v'.map (pm_v (fun k => ad (pm_rn q k)))).toList ++ rest.map (pm_v ad) := by
      cases v' with
      | none => rfl
      | some z => simp [pm_v_comp]
    dsimp only at b1
    rw [this] at b1
    exact b1
  · have hvm : s.vm.Alike t.vm := by rw [← e2]; exact X'.warmed.alike
    obtain ⟨w1, hO, hl1, a1, a2, a3, a4⟩ := pm_after hf hn h0 hP hD hS hK hvm e1 hL' he
    have hout := vx_out (p := p) (l := l) (e := e) (R := pm_rm d mc ms) (below := below) (cells := cells + mc') (slots := slots + ms') (pc := pc) (ls := ls) (rest := rest.map (pm_v ad)) (Qc := pm_Qc D ad tI n s.heap.size O) (XC := pm_XC D ad tI n s.heap.size O) (free := pm_A ad n s.heap.size) (mc := mc) (ms := ms) (args := args) (s := s) (m := m) (E := E) (ce := ce) (q := qx) (H := T'.heap) (locs := locs ++ L')
      (fun x hx => absurd (Xt x hx) id) Xlk (by rw [e1]; exact hce) hcv hcl
      (fun t9 ht9 hW9 => ⟨pm_bk (pm_rn q) w q w1, kx E w1 hO hl1, by rw [pm_bk_len]; exact hn, by rw [ht9]; exact a1, a4.moved hW9, a3.F ht9⟩) a3.2.2 hmc hms T' rfl X'
    obtain ⟨t2, b1, b2⟩ := hout
    exact ⟨t2, hgo.trans b1, b2⟩
/-- Math.min, Math.max -/
theorem pm_J.mmin {pc ix : Nat} {L : List (Option Value)} {rest : List Value} {w : List pm_E} {x y : Int32} (hd : pm_find I.1 pc = some (.invokestatic ix, 3))
    (hw : ∀ z ∈ [Cond.methodLink M.2.2.2.2 ix Lib.Math.min.name, Cond.static Lib.Math.min.name, Cond.initialized "java/lang/Math", Cond.code Lib.Math.min.name Lib.Math.min.code 2 (some .int)], z ∈ pm_tb) (hrest : (rest.map Value.category).sum ≤ 8) (hdd : 1 ≤ d) (hc : cells ≤ mc) (hs : slots ≤ ms)
    (k : pm_J l M I d mc ms n O cells slots (pc + 3, L, .int (if y < x then y else x) :: rest, w)) : pm_J l M I d mc ms n O cells slots (pc, L, .int y :: .int x :: rest, w) := by
  intro p e s m args below meth c D ad tI X H locs ls hP hD hS hL hK
  obtain ⟨X1, Xml, Xr, Xlk, Xt, XG, Xl⟩ := id X
  have hwb := fun z hz => X1.2.2.2.1 z (pm_ws_mem (M := M) (hw z hz))
  exact va_mmin X1.1 X1.2.1 (Xml.trans hL.2.1.symm) X1.2.2.1 (hwb _ (by simp)) (hwb _ (by simp)) (hwb _ (by simp)) (hwb _ (by simp)) hdd (by rw [pm_cats]; show _ ≤ 100 * d; omega) hc hs (X1.dec hd) (k p e s m args below meth c D ad tI X H locs ls hP hD hS hL hK)
theorem pm_J.mmax {pc ix : Nat} {L : List (Option Value)} {rest : List Value} {w : List pm_E} {x y : Int32} (hd : pm_find I.1 pc = some (.invokestatic ix, 3))
    (hw : ∀ z ∈ [Cond.methodLink M.2.2.2.2 ix Lib.Math.max.name, Cond.static Lib.Math.max.name, Cond.initialized "java/lang/Math", Cond.code Lib.Math.max.name Lib.Math.max.code 2 (some .int)], z ∈ pm_tb) (hrest : (rest.map Value.category).sum ≤ 8) (hdd : 1 ≤ d) (hc : cells ≤ mc) (hs : slots ≤ ms)
    (k : pm_J l M I d mc ms n O cells slots (pc + 3, L, .int (if x < y then y else x) :: rest, w)) : pm_J l M I d mc ms n O cells slots (pc, L, .int y :: .int x :: rest, w) := by
  intro p e s m args below meth c D ad tI X H locs ls hP hD hS hL hK
  obtain ⟨X1, Xml, Xr, Xlk, Xt, XG, Xl⟩ := id X
  have hwb := fun z hz => X1.2.2.2.1 z (pm_ws_mem (M := M) (hw z hz))
  exact va_mmax X1.1 X1.2.1 (Xml.trans hL.2.1.symm) X1.2.2.1 (hwb _ (by simp)) (hwb _ (by simp)) (hwb _ (by simp)) (hwb _ (by simp)) hdd (by rw [pm_cats]; show _ ≤ 100 * d; omega) hc hs (X1.dec hd) (k p e s m args below meth c D ad tI X H locs ls hP hD hS hL hK)
/-- System.arraycopy of ints -/
theorem pm_J.copyi {pc ix h0 h1 n0 n1 : Nat} {L : List (Option Value)} {rest : List Value} {w : List pm_E} {sp dp k : Int32} {f g : Nat → Int32} (hd : pm_find I.1 pc = some (.invokestatic ix, 3))
    (hw : ∀ z ∈ [Cond.methodLink M.2.2.2.2 ix arraycopyName, Cond.native arraycopyName, Cond.static arraycopyName, Cond.initialized "java/lang/System"], z ∈ pm_tb) (hrest : (rest.map Value.category).sum ≤ 8) (hdd : 1 ≤ d)
    (hh0 : w[h0]? = some (.inl (.int, n0, .inl f))) (hh1 : w[h1]? = some (.inl (.int, n1, .inl g))) (g1 : ¬ sp < 0) (g2 : ¬ dp < 0) (g3 : ¬ k < 0) (g4 : sp.toNatClampNeg + k.toNatClampNeg ≤ n0) (g5 : dp.toNatClampNeg + k.toNatClampNeg ≤ n1)
    (kk : pm_J l M I d mc ms n O cells slots (pc + 3, L, rest, w.set h1 (.inl (.int, n1, .inl (va_cpy f g sp.toNatClampNeg dp.toNatClampNeg k.toNatClampNeg))))) : pm_J l M I d mc ms n O cells slots (pc, L, .int k :: .int dp :: .ref h1 :: .int sp :: .ref h0 :: rest, w) := by
  intro p e s m args below meth c D ad tI X H locs ls hP hD hS hL hK
  obtain ⟨X1, Xml, Xr, Xlk, Xt, XG, Xl⟩ := id X
  have hwb := fun z hz => X1.2.2.2.1 z (pm_ws_mem (M := M) (hw z hz))
  have hKK : va_K D vwCl [(tI h0, .int), (tI h1, .int)] s := by
    have h := (hK.at hh0).app (hK.at hh1)
    exact h
  refine va_copyi X1.1 X1.2.1 (Xml.trans hL.2.1.symm) X1.2.2.1 (hwb _ (by simp)) (hwb _ (by simp)) (hwb _ (by simp)) (hwb _ (by simp)) hKK hP hD hS h0 h1 0 1 (pm_w_get hh0) (pm_w_get hh1) rfl rfl rfl g1 g2 g3 g4 g5 (fun _ _ => rfl) hdd ?_ (X1.dec hd)
    (fun H1 locs1 a1 a2 a3 => kk p e s m args below meth c D ad tI X H1 locs1 ls (by rw [pm_w_set]; exact a1) (by rw [pm_w_set]; exact a2) a3 hL (hK.setA hh1))
  rw [pm_cats]
  have : nativeFrameWords "java/lang/System" "arraycopy" 5 + 11 ≤ 90 := by decide +kernel
  show _ ≤ 100 * d
  omega
/-- throw new E("text") -/
theorem pm_J.throw {pc ik is ic : Nat} {L : List (Option Value)} {rest : List Value} {w : List pm_E} {cls text : String} {names : List String}
    (d0 : pm_find I.1 pc = some (.new ik, 3)) (d3 : pm_find I.1 (pc + 3) = some (.dup, 1)) (d4 : pm_find I.1 (pc + 4) = some (.ldc is, 2)) (d6 : pm_find I.1 (pc + 6) = some (.invokespecial ic, 3)) (d9 : pm_find I.1 (pc + 9) = some (.athrow, 1))
    (hown : M.2.2.2.2 = RX5) (hstr : (RX5, is, text) ∈ pm_strs) (hcls : Bundle.fit cls = true) (hnames : ∀ x ∈ names, Bundle.fit x = true) (hk : Cond.classLink RX5 ik cls ∈ pm_tb) (hini : Cond.initialized cls ∈ pm_tb)
    (hat : ∀ x ∈ vx_atS RX5 ic cls names, x ∈ pm_tb ∨ x ∈ pm_ng) (hgood : ∀ x ∈ Cond.classLink RX5 ik cls :: Cond.initialized cls :: vx_atS RX5 ic cls names, vx_ot x = true)
    (hrest : (rest.map Value.category).sum ≤ 8) (hlen : names.length ≤ 2) (hdd : 6 ≤ d) (hmc : cells + 1 ≤ mc) (hms : slots + 6 ≤ ms) (hn : w.length = n) (hO : O (.inr cls) w) : pm_J l M I d mc ms n O cells slots (pc, L, rest, w) := by
  intro p e s m args below meth c D ad tI X H locs ls hP hD hS hL hK
  obtain ⟨X1, Xml, Xr, Xlk, Xt, XG, Xl⟩ := id X
  obtain ⟨G1, ⟨sa, G2⟩, G3, G4, G5⟩ := id XG
  have hown' := X1.2.2.1
  rw [hown] at hown'
  refine vx_throwS X1.1 X1.2.1 Xl (own := RX5) (cls := cls) (text := text) (names := names) (ik := ik) (is := is) (ic := ic) (sa := sa is) hown' hcls hnames (X1.2.2.2.1 _ (pm_ws_mem hk)) (X1.2.2.2.1 _ (pm_ws_mem hini)) (G2 _ hstr)
    (fun x hx => (hat x hx).elim (fun h => X1.2.2.2.1 _ (pm_ws_mem h)) (fun h => ?_)) hgood G4 G5 hS (hL.2.1.trans Xml.symm) (X1.dec d0) (X1.dec d3) (X1.dec d4) (X1.dec d6) (X1.dec d9) (fun x hx => absurd (Xt x hx) id)
    (by show _ < d; omega) (by rw [pm_cats]; show (rest.map Value.category).sum + (13 * (names.length + 1) + 43) ≤ 100 * d; omega) hmc hms Xlk
    (fun t hW hz hk' => ⟨w, hO, hn, hP.kept (fun k x hx => hk' _ (hP k x hx).lt), hK.moved hW, Nat.le_trans hS.1 hz, fun x h1 h2 => by rw [hk' x (Nat.lt_of_lt_of_le h1 hS.1)]; exact hS.2.1 x h1 h2⟩) hS.2.2 hmc hms
  have hkd := (List.mem_filter.mp h).2
  have h1 := G1 x h
  unfold pm_kind at hkd
  split at hkd
  · exact va_Nw.use rfl h1
  · exact va_Nw.use rfl h1
  · exact va_Nw.use rfl h1
  · exact va_Nw.use rfl h1
  · cases hkd
end PMG
end
