section
-- ===== PART A: goes FIRST, ahead of the names: the tables' words, and 'selects' of the private methods out of them =====
/-- a private method of a class that the tables say can be made, by its rows of tables_1 -/
def lw_okq (q : MethodName × Nat) : Prop := (q.1.cls ≠ "java/lang/invoke/MethodHandle" ∧ q.1.cls ≠ "java/lang/invoke/VarHandle") ∧ Cond.instantiable q.1.cls q.2 ∈ tables_1 ∧ Cond.privateMethod q.1 ∈ tables_1 ∧ Cond.instanceMethod q.1 ∈ tables_1
theorem lw_p0 : lw_okq (⟨"ShortTrees$Text", "takeRow", "(ILShortTrees$Table;)Z"⟩, 3) := ⟨⟨by decide +kernel, by decide +kernel⟩, List.mem_of_getElem? (i := 27) (by decide +kernel), List.mem_of_getElem? (i := 177) (by decide +kernel), List.mem_of_getElem? (i := 178) (by decide +kernel)⟩
theorem lw_p1 : lw_okq (⟨"ShortTrees$Text", "take", "(C)Z"⟩, 3) := ⟨⟨by decide +kernel, by decide +kernel⟩, List.mem_of_getElem? (i := 27) (by decide +kernel), List.mem_of_getElem? (i := 181) (by decide +kernel), List.mem_of_getElem? (i := 182) (by decide +kernel)⟩
theorem lw_p2 : lw_okq (⟨"ShortTrees$Text", "isHere", "(C)Z"⟩, 3) := ⟨⟨by decide +kernel, by decide +kernel⟩, List.mem_of_getElem? (i := 27) (by decide +kernel), List.mem_of_getElem? (i := 185) (by decide +kernel), List.mem_of_getElem? (i := 186) (by decide +kernel)⟩
theorem lw_p3 : lw_okq (⟨"ShortTrees$Text", "takeEntry", "()I"⟩, 3) := ⟨⟨by decide +kernel, by decide +kernel⟩, List.mem_of_getElem? (i := 27) (by decide +kernel), List.mem_of_getElem? (i := 189) (by decide +kernel), List.mem_of_getElem? (i := 190) (by decide +kernel)⟩
theorem lw_p4 : lw_okq (⟨"ShortTrees$Text", "takeRisingStates", "(I)I"⟩, 3) := ⟨⟨by decide +kernel, by decide +kernel⟩, List.mem_of_getElem? (i := 27) (by decide +kernel), List.mem_of_getElem? (i := 193) (by decide +kernel), List.mem_of_getElem? (i := 194) (by decide +kernel)⟩
theorem lw_p5 : lw_okq (⟨"java/lang/Throwable", "fillInStackTrace", "(I)Ljava/lang/Throwable;"⟩, 6) := ⟨⟨by decide +kernel, by decide +kernel⟩, List.mem_of_getElem? (i := 283) (by decide +kernel), List.mem_of_getElem? (i := 281) (by decide +kernel), List.mem_of_getElem? (i := 282) (by decide +kernel)⟩
theorem lw_p6 : lw_okq (⟨"ShortTrees", "requireCharacter", "(I)V"⟩, 7) := ⟨⟨by decide +kernel, by decide +kernel⟩, List.mem_of_getElem? (i := 19) (by decide +kernel), List.mem_of_getElem? (i := 361) (by decide +kernel), List.mem_of_getElem? (i := 362) (by decide +kernel)⟩
theorem lw_p7 : lw_okq (⟨"ShortTrees", "requireTree", "(I)V"⟩, 7) := ⟨⟨by decide +kernel, by decide +kernel⟩, List.mem_of_getElem? (i := 19) (by decide +kernel), List.mem_of_getElem? (i := 389) (by decide +kernel), List.mem_of_getElem? (i := 390) (by decide +kernel)⟩
theorem lw_p8 : lw_okq (⟨"ShortTrees$Tree", "choose", "(II)V"⟩, 7) := ⟨⟨by decide +kernel, by decide +kernel⟩, List.mem_of_getElem? (i := 44) (by decide +kernel), List.mem_of_getElem? (i := 398) (by decide +kernel), List.mem_of_getElem? (i := 399) (by decide +kernel)⟩
theorem lw_p9 : lw_okq (⟨"ShortTrees$Tree", "chosenNode", "(I)I"⟩, 7) := ⟨⟨by decide +kernel, by decide +kernel⟩, List.mem_of_getElem? (i := 44) (by decide +kernel), List.mem_of_getElem? (i := 402) (by decide +kernel), List.mem_of_getElem? (i := 403) (by decide +kernel)⟩
theorem lw_p10 : lw_okq (⟨"ShortTrees$Tree", "insert", "(II)V"⟩, 7) := ⟨⟨by decide +kernel, by decide +kernel⟩, List.mem_of_getElem? (i := 44) (by decide +kernel), List.mem_of_getElem? (i := 406) (by decide +kernel), List.mem_of_getElem? (i := 407) (by decide +kernel)⟩
theorem lw_p11 : lw_okq (⟨"ShortTrees$Tree", "makeRoom", "(III)V"⟩, 7) := ⟨⟨by decide +kernel, by decide +kernel⟩, List.mem_of_getElem? (i := 44) (by decide +kernel), List.mem_of_getElem? (i := 410) (by decide +kernel), List.mem_of_getElem? (i := 411) (by decide +kernel)⟩
theorem lw_p12 : lw_okq (⟨"ShortTrees$Tree", "tornAt", "(II)J"⟩, 7) := ⟨⟨by decide +kernel, by decide +kernel⟩, List.mem_of_getElem? (i := 44) (by decide +kernel), List.mem_of_getElem? (i := 421) (by decide +kernel), List.mem_of_getElem? (i := 422) (by decide +kernel)⟩
theorem lw_p13 : lw_okq (⟨"ShortTrees$Tree", "joined", "(IIJ)J"⟩, 7) := ⟨⟨by decide +kernel, by decide +kernel⟩, List.mem_of_getElem? (i := 44) (by decide +kernel), List.mem_of_getElem? (i := 427) (by decide +kernel), List.mem_of_getElem? (i := 428) (by decide +kernel)⟩
theorem lw_p14 : lw_okq (⟨"ShortTrees$Finds", "tallySplits", "(ILShortTrees$Tree;)V"⟩, 3) := ⟨⟨by decide +kernel, by decide +kernel⟩, List.mem_of_getElem? (i := 74) (by decide +kernel), List.mem_of_getElem? (i := 464) (by decide +kernel), List.mem_of_getElem? (i := 465) (by decide +kernel)⟩
theorem lw_p15 : lw_okq (⟨"ShortTrees", "requireFinds", "()V"⟩, 7) := ⟨⟨by decide +kernel, by decide +kernel⟩, List.mem_of_getElem? (i := 19) (by decide +kernel), List.mem_of_getElem? (i := 506) (by decide +kernel), List.mem_of_getElem? (i := 507) (by decide +kernel)⟩
def lw_privs_1 : List (MethodName × Nat) := [(⟨"ShortTrees$Text", "takeRow", "(ILShortTrees$Table;)Z"⟩, 3), (⟨"ShortTrees$Text", "take", "(C)Z"⟩, 3), (⟨"ShortTrees$Text", "isHere", "(C)Z"⟩, 3), (⟨"ShortTrees$Text", "takeEntry", "()I"⟩, 3), (⟨"ShortTrees$Text", "takeRisingStates", "(I)I"⟩, 3), (⟨"java/lang/Throwable", "fillInStackTrace", "(I)Ljava/lang/Throwable;"⟩, 6), (⟨"ShortTrees", "requireCharacter", "(I)V"⟩, 7), (⟨"ShortTrees", "requireTree", "(I)V"⟩, 7), (⟨"ShortTrees$Tree", "choose", "(II)V"⟩, 7), (⟨"ShortTrees$Tree", "chosenNode", "(I)I"⟩, 7), (⟨"ShortTrees$Tree", "insert", "(II)V"⟩, 7), (⟨"ShortTrees$Tree", "makeRoom", "(III)V"⟩, 7), (⟨"ShortTrees$Tree", "tornAt", "(II)J"⟩, 7), (⟨"ShortTrees$Tree", "joined", "(IIJ)J"⟩, 7), (⟨"ShortTrees$Finds", "tallySplits", "(ILShortTrees$Tree;)V"⟩, 3), (⟨"ShortTrees", "requireFinds", "()V"⟩, 7)]
theorem lw_r1 : ∀ q ∈ lw_privs_1, lw_okq q := List.forall_mem_cons.mpr ⟨lw_p0, List.forall_mem_cons.mpr ⟨lw_p1, List.forall_mem_cons.mpr ⟨lw_p2, List.forall_mem_cons.mpr ⟨lw_p3, List.forall_mem_cons.mpr ⟨lw_p4, List.forall_mem_cons.mpr ⟨lw_p5, List.forall_mem_cons.mpr ⟨lw_p6, List.forall_mem_cons.mpr ⟨lw_p7, List.forall_mem_cons.mpr ⟨lw_p8, List.forall_mem_cons.mpr ⟨lw_p9, List.forall_mem_cons.mpr ⟨lw_p10, List.forall_mem_cons.mpr ⟨lw_p11, List.forall_mem_cons.mpr ⟨lw_p12, List.forall_mem_cons.mpr ⟨lw_p13, List.forall_mem_cons.mpr ⟨lw_p14, List.forall_mem_cons.mpr ⟨lw_p15, fun _ h => absurd h List.not_mem_nil⟩⟩⟩⟩⟩⟩⟩⟩⟩⟩⟩⟩⟩⟩⟩⟩
theorem lw_p16 : lw_okq (⟨"ShortTrees$Table", "fewestStates", "(I)I"⟩, 4) := ⟨⟨by decide +kernel, by decide +kernel⟩, List.mem_of_getElem? (i := 111) (by decide +kernel), List.mem_of_getElem? (i := 538) (by decide +kernel), List.mem_of_getElem? (i := 539) (by decide +kernel)⟩
theorem lw_p17 : lw_okq (⟨"ShortTrees$Table", "meetsEveryKind", "(II)Z"⟩, 4) := ⟨⟨by decide +kernel, by decide +kernel⟩, List.mem_of_getElem? (i := 111) (by decide +kernel), List.mem_of_getElem? (i := 542) (by decide +kernel), List.mem_of_getElem? (i := 543) (by decide +kernel)⟩
theorem lw_p18 : lw_okq (⟨"ShortTrees$Table", "mostAlike", "(I)I"⟩, 4) := ⟨⟨by decide +kernel, by decide +kernel⟩, List.mem_of_getElem? (i := 111) (by decide +kernel), List.mem_of_getElem? (i := 567) (by decide +kernel), List.mem_of_getElem? (i := 568) (by decide +kernel)⟩
theorem lw_p19 : lw_okq (⟨"ShortTrees$Page", "put", "(C)V"⟩, 4) := ⟨⟨by decide +kernel, by decide +kernel⟩, List.mem_of_getElem? (i := 92) (by decide +kernel), List.mem_of_getElem? (i := 595) (by decide +kernel), List.mem_of_getElem? (i := 596) (by decide +kernel)⟩
theorem lw_p20 : lw_okq (⟨"ShortTrees$Page", "putSideBySide", "(II)V"⟩, 4) := ⟨⟨by decide +kernel, by decide +kernel⟩, List.mem_of_getElem? (i := 92) (by decide +kernel), List.mem_of_getElem? (i := 599) (by decide +kernel), List.mem_of_getElem? (i := 600) (by decide +kernel)⟩
theorem lw_p21 : lw_okq (⟨"ShortTrees$Page", "widestGroup", "(II)I"⟩, 4) := ⟨⟨by decide +kernel, by decide +kernel⟩, List.mem_of_getElem? (i := 92) (by decide +kernel), List.mem_of_getElem? (i := 603) (by decide +kernel), List.mem_of_getElem? (i := 604) (by decide +kernel)⟩
theorem lw_p22 : lw_okq (⟨"ShortTreesModel", "row", "()V"⟩, 27) := ⟨⟨by decide +kernel, by decide +kernel⟩, List.mem_of_getElem? (i := 617) (by decide +kernel), List.mem_of_getElem? (i := 718) (by decide +kernel), List.mem_of_getElem? (i := 719) (by decide +kernel)⟩
theorem lw_p23 : lw_okq (⟨"ShortTreesModel", "wrong", "()V"⟩, 27) := ⟨⟨by decide +kernel, by decide +kernel⟩, List.mem_of_getElem? (i := 617) (by decide +kernel), List.mem_of_getElem? (i := 722) (by decide +kernel), List.mem_of_getElem? (i := 723) (by decide +kernel)⟩
theorem lw_p24 : lw_okq (⟨"ShortTreesModel", "must", "(I)V"⟩, 27) := ⟨⟨by decide +kernel, by decide +kernel⟩, List.mem_of_getElem? (i := 617) (by decide +kernel), List.mem_of_getElem? (i := 726) (by decide +kernel), List.mem_of_getElem? (i := 727) (by decide +kernel)⟩
theorem lw_p25 : lw_okq (⟨"ShortTreesModel", "here", "()I"⟩, 27) := ⟨⟨by decide +kernel, by decide +kernel⟩, List.mem_of_getElem? (i := 617) (by decide +kernel), List.mem_of_getElem? (i := 730) (by decide +kernel), List.mem_of_getElem? (i := 731) (by decide +kernel)⟩
theorem lw_p26 : lw_okq (⟨"ShortTreesModel", "entry", "()I"⟩, 27) := ⟨⟨by decide +kernel, by decide +kernel⟩, List.mem_of_getElem? (i := 617) (by decide +kernel), List.mem_of_getElem? (i := 734) (by decide +kernel), List.mem_of_getElem? (i := 735) (by decide +kernel)⟩
theorem lw_p27 : lw_okq (⟨"ShortTreesModel", "isCharacter", "(I)Z"⟩, 27) := ⟨⟨by decide +kernel, by decide +kernel⟩, List.mem_of_getElem? (i := 617) (by decide +kernel), List.mem_of_getElem? (i := 745) (by decide +kernel), List.mem_of_getElem? (i := 746) (by decide +kernel)⟩
theorem lw_p28 : lw_okq (⟨"ShortTreesModel", "many", "()I"⟩, 27) := ⟨⟨by decide +kernel, by decide +kernel⟩, List.mem_of_getElem? (i := 617) (by decide +kernel), List.mem_of_getElem? (i := 757) (by decide +kernel), List.mem_of_getElem? (i := 758) (by decide +kernel)⟩
theorem lw_p29 : lw_okq (⟨"ShortTreesModel", "isTree", "(I)Z"⟩, 27) := ⟨⟨by decide +kernel, by decide +kernel⟩, List.mem_of_getElem? (i := 617) (by decide +kernel), List.mem_of_getElem? (i := 765) (by decide +kernel), List.mem_of_getElem? (i := 766) (by decide +kernel)⟩
theorem lw_p30 : lw_okq (⟨"ShortTreesModel", "grow", "(I)V"⟩, 27) := ⟨⟨by decide +kernel, by decide +kernel⟩, List.mem_of_getElem? (i := 617) (by decide +kernel), List.mem_of_getElem? (i := 769) (by decide +kernel), List.mem_of_getElem? (i := 770) (by decide +kernel)⟩
theorem lw_p31 : lw_okq (⟨"ShortTreesModel", "choice", "(II)I"⟩, 27) := ⟨⟨by decide +kernel, by decide +kernel⟩, List.mem_of_getElem? (i := 617) (by decide +kernel), List.mem_of_getElem? (i := 773) (by decide +kernel), List.mem_of_getElem? (i := 774) (by decide +kernel)⟩
def lw_privs_2 : List (MethodName × Nat) := [(⟨"ShortTrees$Table", "fewestStates", "(I)I"⟩, 4), (⟨"ShortTrees$Table", "meetsEveryKind", "(II)Z"⟩, 4), (⟨"ShortTrees$Table", "mostAlike", "(I)I"⟩, 4), (⟨"ShortTrees$Page", "put", "(C)V"⟩, 4), (⟨"ShortTrees$Page", "putSideBySide", "(II)V"⟩, 4), (⟨"ShortTrees$Page", "widestGroup", "(II)I"⟩, 4), (⟨"ShortTreesModel", "row", "()V"⟩, 27), (⟨"ShortTreesModel", "wrong", "()V"⟩, 27), (⟨"ShortTreesModel", "must", "(I)V"⟩, 27), (⟨"ShortTreesModel", "here", "()I"⟩, 27), (⟨"ShortTreesModel", "entry", "()I"⟩, 27), (⟨"ShortTreesModel", "isCharacter", "(I)Z"⟩, 27), (⟨"ShortTreesModel", "many", "()I"⟩, 27), (⟨"ShortTreesModel", "isTree", "(I)Z"⟩, 27), (⟨"ShortTreesModel", "grow", "(I)V"⟩, 27), (⟨"ShortTreesModel", "choice", "(II)I"⟩, 27)]
theorem lw_r2 : ∀ q ∈ lw_privs_2, lw_okq q := List.forall_mem_cons.mpr ⟨lw_p16, List.forall_mem_cons.mpr ⟨lw_p17, List.forall_mem_cons.mpr ⟨lw_p18, List.forall_mem_cons.mpr ⟨lw_p19, List.forall_mem_cons.mpr ⟨lw_p20, List.forall_mem_cons.mpr ⟨lw_p21, List.forall_mem_cons.mpr ⟨lw_p22, List.forall_mem_cons.mpr ⟨lw_p23, List.forall_mem_cons.mpr ⟨lw_p24, List.forall_mem_cons.mpr ⟨lw_p25, List.forall_mem_cons.mpr ⟨lw_p26, List.forall_mem_cons.mpr ⟨lw_p27, List.forall_mem_cons.mpr ⟨lw_p28, List.forall_mem_cons.mpr ⟨lw_p29, List.forall_mem_cons.mpr ⟨lw_p30, List.forall_mem_cons.mpr ⟨lw_p31, fun _ h => absurd h List.not_mem_nil⟩⟩⟩⟩⟩⟩⟩⟩⟩⟩⟩⟩⟩⟩⟩⟩
theorem lw_p32 : lw_okq (⟨"ShortTreesModel", "replace", "(II)V"⟩, 27) := ⟨⟨by decide +kernel, by decide +kernel⟩, List.mem_of_getElem? (i := 617) (by decide +kernel), List.mem_of_getElem? (i := 777) (by decide +kernel), List.mem_of_getElem? (i := 778) (by decide +kernel)⟩
theorem lw_p33 : lw_okq (⟨"ShortTreesModel", "gather", "()V"⟩, 27) := ⟨⟨by decide +kernel, by decide +kernel⟩, List.mem_of_getElem? (i := 617) (by decide +kernel), List.mem_of_getElem? (i := 781) (by decide +kernel), List.mem_of_getElem? (i := 782) (by decide +kernel)⟩
theorem lw_p34 : lw_okq (⟨"ShortTreesModel", "needed", "(I)I"⟩, 27) := ⟨⟨by decide +kernel, by decide +kernel⟩, List.mem_of_getElem? (i := 617) (by decide +kernel), List.mem_of_getElem? (i := 785) (by decide +kernel), List.mem_of_getElem? (i := 786) (by decide +kernel)⟩
theorem lw_p35 : lw_okq (⟨"ShortTreesModel", "from", "(II)I"⟩, 27) := ⟨⟨by decide +kernel, by decide +kernel⟩, List.mem_of_getElem? (i := 617) (by decide +kernel), List.mem_of_getElem? (i := 789) (by decide +kernel), List.mem_of_getElem? (i := 790) (by decide +kernel)⟩
theorem lw_p36 : lw_okq (⟨"ShortTreesModel", "lengthOf", "(I)I"⟩, 27) := ⟨⟨by decide +kernel, by decide +kernel⟩, List.mem_of_getElem? (i := 617) (by decide +kernel), List.mem_of_getElem? (i := 800) (by decide +kernel), List.mem_of_getElem? (i := 801) (by decide +kernel)⟩
theorem lw_p37 : lw_okq (⟨"ShortTreesModel", "hasSplit", "(I)Z"⟩, 27) := ⟨⟨by decide +kernel, by decide +kernel⟩, List.mem_of_getElem? (i := 617) (by decide +kernel), List.mem_of_getElem? (i := 820) (by decide +kernel), List.mem_of_getElem? (i := 821) (by decide +kernel)⟩
theorem lw_p38 : lw_okq (⟨"ShortTreesModel", "sharing", "(I)I"⟩, 27) := ⟨⟨by decide +kernel, by decide +kernel⟩, List.mem_of_getElem? (i := 617) (by decide +kernel), List.mem_of_getElem? (i := 828) (by decide +kernel), List.mem_of_getElem? (i := 829) (by decide +kernel)⟩
theorem lw_p39 : lw_okq (⟨"ShortTreesModel", "sum", "(Z)I"⟩, 27) := ⟨⟨by decide +kernel, by decide +kernel⟩, List.mem_of_getElem? (i := 617) (by decide +kernel), List.mem_of_getElem? (i := 840) (by decide +kernel), List.mem_of_getElem? (i := 841) (by decide +kernel)⟩
theorem lw_p40 : lw_okq (⟨"ShortTreesModel", "mostOf", "(I)I"⟩, 27) := ⟨⟨by decide +kernel, by decide +kernel⟩, List.mem_of_getElem? (i := 617) (by decide +kernel), List.mem_of_getElem? (i := 844) (by decide +kernel), List.mem_of_getElem? (i := 845) (by decide +kernel)⟩
theorem lw_p41 : lw_okq (⟨"ShortTreesModel", "leastOf", "(I)I"⟩, 27) := ⟨⟨by decide +kernel, by decide +kernel⟩, List.mem_of_getElem? (i := 617) (by decide +kernel), List.mem_of_getElem? (i := 848) (by decide +kernel), List.mem_of_getElem? (i := 849) (by decide +kernel)⟩
theorem lw_p42 : lw_okq (⟨"ShortTreesModel", "writeSplits", "()I"⟩, 27) := ⟨⟨by decide +kernel, by decide +kernel⟩, List.mem_of_getElem? (i := 617) (by decide +kernel), List.mem_of_getElem? (i := 863) (by decide +kernel), List.mem_of_getElem? (i := 864) (by decide +kernel)⟩
theorem lw_p43 : lw_okq (⟨"ShortTreesModel", "put", "(I)V"⟩, 27) := ⟨⟨by decide +kernel, by decide +kernel⟩, List.mem_of_getElem? (i := 617) (by decide +kernel), List.mem_of_getElem? (i := 867) (by decide +kernel), List.mem_of_getElem? (i := 868) (by decide +kernel)⟩
theorem lw_p44 : lw_okq (⟨"ShortTreesModel", "spread", "(II)I"⟩, 27) := ⟨⟨by decide +kernel, by decide +kernel⟩, List.mem_of_getElem? (i := 617) (by decide +kernel), List.mem_of_getElem? (i := 871) (by decide +kernel), List.mem_of_getElem? (i := 872) (by decide +kernel)⟩
theorem lw_p45 : lw_okq (⟨"ShortTreesModel", "part", "(II)I"⟩, 27) := ⟨⟨by decide +kernel, by decide +kernel⟩, List.mem_of_getElem? (i := 617) (by decide +kernel), List.mem_of_getElem? (i := 875) (by decide +kernel), List.mem_of_getElem? (i := 876) (by decide +kernel)⟩
def lw_privs_3 : List (MethodName × Nat) := [(⟨"ShortTreesModel", "replace", "(II)V"⟩, 27), (⟨"ShortTreesModel", "gather", "()V"⟩, 27), (⟨"ShortTreesModel", "needed", "(I)I"⟩, 27), (⟨"ShortTreesModel", "from", "(II)I"⟩, 27), (⟨"ShortTreesModel", "lengthOf", "(I)I"⟩, 27), (⟨"ShortTreesModel", "hasSplit", "(I)Z"⟩, 27), (⟨"ShortTreesModel", "sharing", "(I)I"⟩, 27), (⟨"ShortTreesModel", "sum", "(Z)I"⟩, 27), (⟨"ShortTreesModel", "mostOf", "(I)I"⟩, 27), (⟨"ShortTreesModel", "leastOf", "(I)I"⟩, 27), (⟨"ShortTreesModel", "writeSplits", "()I"⟩, 27), (⟨"ShortTreesModel", "put", "(I)V"⟩, 27), (⟨"ShortTreesModel", "spread", "(II)I"⟩, 27), (⟨"ShortTreesModel", "part", "(II)I"⟩, 27)]
theorem lw_r3 : ∀ q ∈ lw_privs_3, lw_okq q := List.forall_mem_cons.mpr ⟨lw_p32, List.forall_mem_cons.mpr ⟨lw_p33, List.forall_mem_cons.mpr ⟨lw_p34, List.forall_mem_cons.mpr ⟨lw_p35, List.forall_mem_cons.mpr ⟨lw_p36, List.forall_mem_cons.mpr ⟨lw_p37, List.forall_mem_cons.mpr ⟨lw_p38, List.forall_mem_cons.mpr ⟨lw_p39, List.forall_mem_cons.mpr ⟨lw_p40, List.forall_mem_cons.mpr ⟨lw_p41, List.forall_mem_cons.mpr ⟨lw_p42, List.forall_mem_cons.mpr ⟨lw_p43, List.forall_mem_cons.mpr ⟨lw_p44, List.forall_mem_cons.mpr ⟨lw_p45, fun _ h => absurd h List.not_mem_nil⟩⟩⟩⟩⟩⟩⟩⟩⟩⟩⟩⟩⟩⟩
def lw_privs : List (MethodName × Nat) := lw_privs_1 ++ (lw_privs_2 ++ (lw_privs_3))
def lw_tbl : List Cond := k2_sels lw_privs ++ tables_1
theorem lw_privs_ok : ∀ q ∈ lw_privs, lw_okq q := by
  show ∀ q ∈ lw_privs_1 ++ (lw_privs_2 ++ (lw_privs_3)), lw_okq q
  exact List.forall_mem_append.mpr ⟨lw_r1, List.forall_mem_append.mpr ⟨lw_r2, lw_r3⟩⟩
end
section
/-! ===== BEGIN printed: names, fields, word lists, decode rows ===== -/
def RX0 : String := "ShortTrees$Finds"
def TX0 : u_T := fun k => match k with
  | 0 => ("ShortTrees$Finds", "numbers", "[I", true)
  | 1 => ("ShortTrees$Finds", "tally", "[I", true)
  | _ => ("ShortTrees$Finds", "count", "I", false)
def tyX0 : Nat → FieldType := fun k => match k with
  | 0 => .array .int
  | 1 => .array .int
  | _ => .int
abbrev wsX00 : List Cond := u_ws RX0 TX0 3
theorem nmX0 : ∀ a, a < 3 → ∀ b, b < 3 → a ≠ b → (TX0 a).2.1 ≠ (TX0 b).2.1 := by decide +kernel
theorem tyX0_ok : ∀ k, k < 3 → parseFieldDescriptor (TX0 k).2.2.1 = some (tyX0 k) := by decide +kernel
abbrev cX0_init : ByteArray := prog_2_method_1_code
def yX0_init : MethodName := ⟨RX0, "<init>", "()V"⟩
abbrev cX0_forget : ByteArray := prog_2_method_2_code
def yX0_forget : MethodName := ⟨RX0, "forget", "()V"⟩
abbrev cX0_gather : ByteArray := prog_2_method_3_code
def yX0_gather : MethodName := ⟨RX0, "gather", "(LShortTrees$Table;LShortTrees$Tree;)I"⟩
abbrev cX0_tallySplits : ByteArray := prog_2_method_4_code
def yX0_tallySplits : MethodName := ⟨RX0, "tallySplits", "(ILShortTrees$Tree;)V"⟩
abbrev cX0_shareOf : ByteArray := prog_2_method_5_code
def yX0_shareOf : MethodName := ⟨RX0, "shareOf", "(I)F"⟩
def RX1 : String := "ShortTrees$Page"
def TX1 : u_T := fun k => match k with
  | 0 => ("ShortTrees$Page", "signs", "[C", true)
  | 1 => ("ShortTrees$Page", "groups", "[I", true)
  | 2 => ("ShortTrees$Page", "size", "I", false)
  | _ => ("ShortTrees$Page", "groupCount", "I", false)
def tyX1 : Nat → FieldType := fun k => match k with
  | 0 => .array .char
  | 1 => .array .int
  | 2 => .int
  | _ => .int
abbrev wsX10 : List Cond := u_ws RX1 TX1 4
theorem nmX1 : ∀ a, a < 4 → ∀ b, b < 4 → a ≠ b → (TX1 a).2.1 ≠ (TX1 b).2.1 := by decide +kernel
theorem tyX1_ok : ∀ k, k < 4 → parseFieldDescriptor (TX1 k).2.2.1 = some (tyX1 k) := by decide +kernel
abbrev cX1_init : ByteArray := prog_3_method_1_code
def yX1_init : MethodName := ⟨RX1, "<init>", "()V"⟩
abbrev cX1_forgetGroups : ByteArray := prog_3_method_2_code
def yX1_forgetGroups : MethodName := ⟨RX1, "forgetGroups", "()V"⟩
abbrev cX1_addGroup : ByteArray := prog_3_method_3_code
def yX1_addGroup : MethodName := ⟨RX1, "addGroup", "(I)V"⟩
abbrev cX1_fill : ByteArray := prog_3_method_4_code
def yX1_fill : MethodName := ⟨RX1, "fill", "(I)I"⟩
abbrev cX1_putSideBySide : ByteArray := prog_3_method_5_code
def yX1_putSideBySide : MethodName := ⟨RX1, "putSideBySide", "(II)V"⟩
abbrev cX1_widestGroup : ByteArray := prog_3_method_6_code
def yX1_widestGroup : MethodName := ⟨RX1, "widestGroup", "(II)I"⟩
abbrev cX1_put : ByteArray := prog_3_method_7_code
def yX1_put : MethodName := ⟨RX1, "put", "(C)V"⟩
abbrev cX1_signAt : ByteArray := prog_3_method_8_code
def yX1_signAt : MethodName := ⟨RX1, "signAt", "(I)C"⟩
def RX2 : String := "ShortTrees$Table"
def TX2 : u_T := fun k => match k with
  | 0 => ("ShortTrees$Table", "rows", "[J", true)
  | 1 => ("ShortTrees$Table", "weights", "[I", true)
  | 2 => ("ShortTrees$Table", "kinds", "I", false)
  | _ => ("ShortTrees$Table", "characters", "I", false)
def tyX2 : Nat → FieldType := fun k => match k with
  | 0 => .array .long
  | 1 => .array .int
  | 2 => .int
  | _ => .int
abbrev wsX20 : List Cond := u_ws RX2 TX2 4
theorem nmX2 : ∀ a, a < 4 → ∀ b, b < 4 → a ≠ b → (TX2 a).2.1 ≠ (TX2 b).2.1 := by decide +kernel
theorem tyX2_ok : ∀ k, k < 4 → parseFieldDescriptor (TX2 k).2.2.1 = some (tyX2 k) := by decide +kernel
abbrev cX2_init : ByteArray := prog_4_method_1_code
def yX2_init : MethodName := ⟨RX2, "<init>", "()V"⟩
abbrev cX2_clear : ByteArray := prog_4_method_2_code
def yX2_clear : MethodName := ⟨RX2, "clear", "()V"⟩
abbrev cX2_put : ByteArray := prog_4_method_3_code
def yX2_put : MethodName := ⟨RX2, "put", "(III)V"⟩
abbrev cX2_hasCharacter : ByteArray := prog_4_method_4_code
def yX2_hasCharacter : MethodName := ⟨RX2, "hasCharacter", "(I)Z"⟩
abbrev cX2_setOf : ByteArray := prog_4_method_5_code
def yX2_setOf : MethodName := ⟨RX2, "setOf", "(II)I"⟩
abbrev cX2_bitsOf : ByteArray := prog_4_method_6_code
def yX2_bitsOf : MethodName := ⟨RX2, "bitsOf", "(JI)I"⟩
abbrev cX2_treeCount : ByteArray := prog_4_method_7_code
def yX2_treeCount : MethodName := ⟨RX2, "treeCount", "()I"⟩
abbrev cX2_weighed : ByteArray := prog_4_method_8_code
def yX2_weighed : MethodName := ⟨RX2, "weighed", "(J)I"⟩
abbrev cX2_least : ByteArray := prog_4_method_9_code
def yX2_least : MethodName := ⟨RX2, "least", "()I"⟩
abbrev cX2_most : ByteArray := prog_4_method_10_code
def yX2_most : MethodName := ⟨RX2, "most", "()I"⟩
abbrev cX2_fewestStates : ByteArray := prog_4_method_11_code
def yX2_fewestStates : MethodName := ⟨RX2, "fewestStates", "(I)I"⟩
abbrev cX2_meetsEveryKind : ByteArray := prog_4_method_12_code
def yX2_meetsEveryKind : MethodName := ⟨RX2, "meetsEveryKind", "(II)Z"⟩
abbrev cX2_mostAlike : ByteArray := prog_4_method_13_code
def yX2_mostAlike : MethodName := ⟨RX2, "mostAlike", "(I)I"⟩
def RX3 : String := "ShortTrees$Text"
def TX3 : u_T := fun k => match k with
  | 0 => ("ShortTrees$Text", "typed", "[C", true)
  | 1 => ("ShortTrees$Text", "size", "I", false)
  | _ => ("ShortTrees$Text", "at", "I", false)
def tyX3 : Nat → FieldType := fun k => match k with
  | 0 => .array .char
  | 1 => .int
  | _ => .int
abbrev wsX30 : List Cond := u_ws RX3 TX3 3
theorem nmX3 : ∀ a, a < 3 → ∀ b, b < 3 → a ≠ b → (TX3 a).2.1 ≠ (TX3 b).2.1 := by decide +kernel
theorem tyX3_ok : ∀ k, k < 3 → parseFieldDescriptor (TX3 k).2.2.1 = some (tyX3 k) := by decide +kernel
abbrev cX3_init : ByteArray := prog_5_method_1_code
def yX3_init : MethodName := ⟨RX3, "<init>", "()V"⟩
abbrev cX3_isFull : ByteArray := prog_5_method_2_code
def yX3_isFull : MethodName := ⟨RX3, "isFull", "()Z"⟩
abbrev cX3_add : ByteArray := prog_5_method_3_code
def yX3_add : MethodName := ⟨RX3, "add", "(C)I"⟩
abbrev cX3_empty : ByteArray := prog_5_method_4_code
def yX3_empty : MethodName := ⟨RX3, "empty", "()V"⟩
abbrev cX3_place : ByteArray := prog_5_method_5_code
def yX3_place : MethodName := ⟨RX3, "place", "()I"⟩
abbrev cX3_readInto : ByteArray := prog_5_method_6_code
def yX3_readInto : MethodName := ⟨RX3, "readInto", "(LShortTrees$Table;)Z"⟩
abbrev cX3_takeRow : ByteArray := prog_5_method_7_code
def yX3_takeRow : MethodName := ⟨RX3, "takeRow", "(ILShortTrees$Table;)Z"⟩
abbrev cX3_takeEntry : ByteArray := prog_5_method_8_code
def yX3_takeEntry : MethodName := ⟨RX3, "takeEntry", "()I"⟩
abbrev cX3_takeRisingStates : ByteArray := prog_5_method_9_code
def yX3_takeRisingStates : MethodName := ⟨RX3, "takeRisingStates", "(I)I"⟩
abbrev cX3_take : ByteArray := prog_5_method_10_code
def yX3_take : MethodName := ⟨RX3, "take", "(C)Z"⟩
abbrev cX3_isHere : ByteArray := prog_5_method_11_code
def yX3_isHere : MethodName := ⟨RX3, "isHere", "(C)Z"⟩
def RX4 : String := "ShortTrees$Tree"
def TX4 : u_T := fun k => match k with
  | 0 => ("ShortTrees$Tree", "choices", "[I", true)
  | 1 => ("ShortTrees$Tree", "one", "[I", true)
  | 2 => ("ShortTrees$Tree", "other", "[I", true)
  | 3 => ("ShortTrees$Tree", "below", "[I", true)
  | 4 => ("ShortTrees$Tree", "sets", "[J", true)
  | 5 => ("ShortTrees$Tree", "order", "[I", true)
  | _ => ("ShortTrees$Tree", "inner", "I", false)
def tyX4 : Nat → FieldType := fun k => match k with
  | 0 => .array .int
  | 1 => .array .int
  | 2 => .array .int
  | 3 => .array .int
  | 4 => .array .long
  | 5 => .array .int
  | _ => .int
abbrev wsX40 : List Cond := u_ws RX4 TX4 7
theorem nmX4 : ∀ a, a < 7 → ∀ b, b < 7 → a ≠ b → (TX4 a).2.1 ≠ (TX4 b).2.1 := by decide +kernel
theorem tyX4_ok : ∀ k, k < 7 → parseFieldDescriptor (TX4 k).2.2.1 = some (tyX4 k) := by decide +kernel
abbrev cX4_init : ByteArray := prog_6_method_1_code
def yX4_init : MethodName := ⟨RX4, "<init>", "()V"⟩
abbrev cX4_grow : ByteArray := prog_6_method_2_code
def yX4_grow : MethodName := ⟨RX4, "grow", "(II)V"⟩
abbrev cX4_growAndMeasure : ByteArray := prog_6_method_3_code
def yX4_growAndMeasure : MethodName := ⟨RX4, "growAndMeasure", "(ILShortTrees$Table;)I"⟩
abbrev cX4_choose : ByteArray := prog_6_method_4_code
def yX4_choose : MethodName := ⟨RX4, "choose", "(II)V"⟩
abbrev cX4_chosenNode : ByteArray := prog_6_method_5_code
def yX4_chosenNode : MethodName := ⟨RX4, "chosenNode", "(I)I"⟩
abbrev cX4_insert : ByteArray := prog_6_method_6_code
def yX4_insert : MethodName := ⟨RX4, "insert", "(II)V"⟩
abbrev cX4_makeRoom : ByteArray := prog_6_method_7_code
def yX4_makeRoom : MethodName := ⟨RX4, "makeRoom", "(III)V"⟩
abbrev cX4_packedChanges : ByteArray := prog_6_method_8_code
def yX4_packedChanges : MethodName := ⟨RX4, "packedChanges", "(LShortTrees$Table;)J"⟩
abbrev cX4_tornAt : ByteArray := prog_6_method_9_code
def yX4_tornAt : MethodName := ⟨RX4, "tornAt", "(II)J"⟩
abbrev cX4_joined : ByteArray := prog_6_method_10_code
def yX4_joined : MethodName := ⟨RX4, "joined", "(IIJ)J"⟩
abbrev cX4_splitCount : ByteArray := prog_6_method_11_code
def yX4_splitCount : MethodName := ⟨RX4, "splitCount", "()I"⟩
abbrev cX4_splitAt : ByteArray := prog_6_method_12_code
def yX4_splitAt : MethodName := ⟨RX4, "splitAt", "(I)I"⟩
abbrev cX4_hasSplit : ByteArray := prog_6_method_13_code
def yX4_hasSplit : MethodName := ⟨RX4, "hasSplit", "(I)Z"⟩
abbrev cX4_splitsNotIn : ByteArray := prog_6_method_14_code
def yX4_splitsNotIn : MethodName := ⟨RX4, "splitsNotIn", "(LShortTrees$Tree;)I"⟩
def RX5 : String := "ShortTrees"
def TX5 : u_T := fun k => match k with
  | 0 => ("ShortTrees", "text", "LShortTrees$Text;", true)
  | 1 => ("ShortTrees", "grown", "LShortTrees$Tree;", true)
  | 2 => ("ShortTrees", "alsoGrown", "LShortTrees$Tree;", true)
  | 3 => ("ShortTrees", "finds", "LShortTrees$Finds;", true)
  | 4 => ("ShortTrees", "page", "LShortTrees$Page;", true)
  | 5 => ("ShortTrees", "current", "LShortTrees$Table;", false)
  | _ => ("ShortTrees", "spare", "LShortTrees$Table;", false)
def tyX5 : Nat → FieldType := fun k => match k with
  | 0 => .object "ShortTrees$Text"
  | 1 => .object "ShortTrees$Tree"
  | 2 => .object "ShortTrees$Tree"
  | 3 => .object "ShortTrees$Finds"
  | 4 => .object "ShortTrees$Page"
  | 5 => .object "ShortTrees$Table"
  | _ => .object "ShortTrees$Table"
abbrev wsX50 : List Cond := u_ws RX5 TX5 7
theorem nmX5 : ∀ a, a < 7 → ∀ b, b < 7 → a ≠ b → (TX5 a).2.1 ≠ (TX5 b).2.1 := by decide +kernel
theorem tyX5_ok : ∀ k, k < 7 → parseFieldDescriptor (TX5 k).2.2.1 = some (tyX5 k) := by decide +kernel
abbrev cX5_init : ByteArray := prog_1_method_1_code
def yX5_init : MethodName := ⟨RX5, "<init>", "()V"⟩
abbrev cX5_type : ByteArray := prog_1_method_2_code
def yX5_type : MethodName := ⟨RX5, "type", "(C)I"⟩
abbrev cX5_table : ByteArray := prog_1_method_3_code
def yX5_table : MethodName := ⟨RX5, "table", "()I"⟩
abbrev cX5_states : ByteArray := prog_1_method_4_code
def yX5_states : MethodName := ⟨RX5, "states", "(II)I"⟩
abbrev cX5_weigh : ByteArray := prog_1_method_5_code
def yX5_weigh : MethodName := ⟨RX5, "weigh", "(II)I"⟩
abbrev cX5_trees : ByteArray := prog_1_method_6_code
def yX5_trees : MethodName := ⟨RX5, "trees", "()I"⟩
abbrev cX5_changes : ByteArray := prog_1_method_7_code
def yX5_changes : MethodName := ⟨RX5, "changes", "(II)I"⟩
abbrev cX5_length : ByteArray := prog_1_method_8_code
def yX5_length : MethodName := ⟨RX5, "length", "(I)I"⟩
abbrev cX5_search : ByteArray := prog_1_method_9_code
def yX5_search : MethodName := ⟨RX5, "search", "()I"⟩
abbrev cX5_found : ByteArray := prog_1_method_10_code
def yX5_found : MethodName := ⟨RX5, "found", "()I"⟩
abbrev cX5_best : ByteArray := prog_1_method_11_code
def yX5_best : MethodName := ⟨RX5, "best", "(I)I"⟩
abbrev cX5_split : ByteArray := prog_1_method_12_code
def yX5_split : MethodName := ⟨RX5, "split", "(II)Z"⟩
abbrev cX5_share : ByteArray := prog_1_method_13_code
def yX5_share : MethodName := ⟨RX5, "share", "(I)F"⟩
abbrev cX5_distance : ByteArray := prog_1_method_14_code
def yX5_distance : MethodName := ⟨RX5, "distance", "(II)I"⟩
abbrev cX5_consistency : ByteArray := prog_1_method_15_code
def yX5_consistency : MethodName := ⟨RX5, "consistency", "(I)F"⟩
abbrev cX5_retention : ByteArray := prog_1_method_16_code
def yX5_retention : MethodName := ⟨RX5, "retention", "(I)F"⟩
abbrev cX5_write : ByteArray := prog_1_method_17_code
def yX5_write : MethodName := ⟨RX5, "write", "(I)I"⟩
abbrev cX5_common : ByteArray := prog_1_method_18_code
def yX5_common : MethodName := ⟨RX5, "common", "(F)I"⟩
abbrev cX5_written : ByteArray := prog_1_method_19_code
def yX5_written : MethodName := ⟨RX5, "written", "(I)C"⟩
abbrev cX5_requireTree : ByteArray := prog_1_method_20_code
def yX5_requireTree : MethodName := ⟨RX5, "requireTree", "(I)V"⟩
abbrev cX5_requireCharacter : ByteArray := prog_1_method_21_code
def yX5_requireCharacter : MethodName := ⟨RX5, "requireCharacter", "(I)V"⟩
abbrev cX5_requireFinds : ByteArray := prog_1_method_22_code
def yX5_requireFinds : MethodName := ⟨RX5, "requireFinds", "()V"⟩
def RX6 : String := "ShortTreesModel"
def TX6 : u_T := fun k => match k with
  | 0 => ("ShortTreesModel", "length", "I", false)
  | 1 => ("ShortTreesModel", "text", "[C", true)
  | 2 => ("ShortTreesModel", "place", "I", false)
  | 3 => ("ShortTreesModel", "fault", "I", false)
  | 4 => ("ShortTreesModel", "kinds", "I", false)
  | 5 => ("ShortTreesModel", "characters", "I", false)
  | 6 => ("ShortTreesModel", "states", "[I", true)
  | 7 => ("ShortTreesModel", "weight", "[I", true)
  | 8 => ("ShortTreesModel", "fresh", "[I", true)
  | 9 => ("ShortTreesModel", "rows", "I", false)
  | 10 => ("ShortTreesModel", "entries", "I", false)
  | 11 => ("ShortTreesModel", "found", "I", false)
  | 12 => ("ShortTreesModel", "best", "[I", true)
  | 13 => ("ShortTreesModel", "top", "I", false)
  | 14 => ("ShortTreesModel", "left", "[I", true)
  | 15 => ("ShortTreesModel", "right", "[I", true)
  | 16 => ("ShortTreesModel", "set", "[I", true)
  | 17 => ("ShortTreesModel", "ready", "[Z", true)
  | 18 => ("ShortTreesModel", "cost", "[I", true)
  | 19 => ("ShortTreesModel", "splits", "I", false)
  | 20 => ("ShortTreesModel", "splitSet", "[I", true)
  | 21 => ("ShortTreesModel", "otherSplits", "I", false)
  | 22 => ("ShortTreesModel", "otherSet", "[I", true)
  | 23 => ("ShortTreesModel", "size", "I", false)
  | 24 => ("ShortTreesModel", "written", "[C", true)
  | 25 => ("ShortTreesModel", "open", "[I", true)
  | _ => ("ShortTreesModel", "thrown", "I", false)
def tyX6 : Nat → FieldType := fun k => match k with
  | 0 => .int
  | 1 => .array .char
  | 2 => .int
  | 3 => .int
  | 4 => .int
  | 5 => .int
  | 6 => .array .int
  | 7 => .array .int
  | 8 => .array .int
  | 9 => .int
  | 10 => .int
  | 11 => .int
  | 12 => .array .int
  | 13 => .int
  | 14 => .array .int
  | 15 => .array .int
  | 16 => .array .int
  | 17 => .array .boolean
  | 18 => .array .int
  | 19 => .int
  | 20 => .array .int
  | 21 => .int
  | 22 => .array .int
  | 23 => .int
  | 24 => .array .char
  | 25 => .array .int
  | _ => .int
abbrev wsX60 : List Cond := u_ws RX6 TX6 27
theorem nmX6 : ∀ a, a < 27 → ∀ b, b < 27 → a ≠ b → (TX6 a).2.1 ≠ (TX6 b).2.1 := by decide +kernel
theorem tyX6_ok : ∀ k, k < 27 → parseFieldDescriptor (TX6 k).2.2.1 = some (tyX6 k) := by decide +kernel
abbrev cX6_init : ByteArray := prog_8_method_1_code
def yX6_init : MethodName := ⟨RX6, "<init>", "()V"⟩
abbrev cX6_thrown : ByteArray := prog_8_method_2_code
def yX6_thrown : MethodName := ⟨RX6, "thrown", "()I"⟩
abbrev cX6_type : ByteArray := prog_8_method_3_code
def yX6_type : MethodName := ⟨RX6, "type", "(C)I"⟩
abbrev cX6_here : ByteArray := prog_8_method_4_code
def yX6_here : MethodName := ⟨RX6, "here", "()I"⟩
abbrev cX6_wrong : ByteArray := prog_8_method_5_code
def yX6_wrong : MethodName := ⟨RX6, "wrong", "()V"⟩
abbrev cX6_must : ByteArray := prog_8_method_6_code
def yX6_must : MethodName := ⟨RX6, "must", "(I)V"⟩
abbrev cX6_isState : ByteArray := prog_8_method_7_code
def yX6_isState : MethodName := ⟨RX6, "isState", "(I)Z"⟩
abbrev cX6_entry : ByteArray := prog_8_method_8_code
def yX6_entry : MethodName := ⟨RX6, "entry", "()I"⟩
abbrev cX6_row : ByteArray := prog_8_method_9_code
def yX6_row : MethodName := ⟨RX6, "row", "()V"⟩
abbrev cX6_table : ByteArray := prog_8_method_10_code
def yX6_table : MethodName := ⟨RX6, "table", "()I"⟩
abbrev cX6_isCharacter : ByteArray := prog_8_method_11_code
def yX6_isCharacter : MethodName := ⟨RX6, "isCharacter", "(I)Z"⟩
abbrev cX6_states : ByteArray := prog_8_method_12_code
def yX6_states : MethodName := ⟨RX6, "states", "(II)I"⟩
abbrev cX6_weigh : ByteArray := prog_8_method_13_code
def yX6_weigh : MethodName := ⟨RX6, "weigh", "(II)I"⟩
abbrev cX6_many : ByteArray := prog_8_method_14_code
def yX6_many : MethodName := ⟨RX6, "many", "()I"⟩
abbrev cX6_trees : ByteArray := prog_8_method_15_code
def yX6_trees : MethodName := ⟨RX6, "trees", "()I"⟩
abbrev cX6_isTree : ByteArray := prog_8_method_16_code
def yX6_isTree : MethodName := ⟨RX6, "isTree", "(I)Z"⟩
abbrev cX6_replace : ByteArray := prog_8_method_17_code
def yX6_replace : MethodName := ⟨RX6, "replace", "(II)V"⟩
abbrev cX6_choice : ByteArray := prog_8_method_18_code
def yX6_choice : MethodName := ⟨RX6, "choice", "(II)I"⟩
abbrev cX6_grow : ByteArray := prog_8_method_19_code
def yX6_grow : MethodName := ⟨RX6, "grow", "(I)V"⟩
abbrev cX6_gather : ByteArray := prog_8_method_20_code
def yX6_gather : MethodName := ⟨RX6, "gather", "()V"⟩
abbrev cX6_least : ByteArray := prog_8_method_21_code
def yX6_least : MethodName := ⟨RX6, "least", "(II)I"⟩
abbrev cX6_from : ByteArray := prog_8_method_22_code
def yX6_from : MethodName := ⟨RX6, "from", "(II)I"⟩
abbrev cX6_needed : ByteArray := prog_8_method_23_code
def yX6_needed : MethodName := ⟨RX6, "needed", "(I)I"⟩
abbrev cX6_changes : ByteArray := prog_8_method_24_code
def yX6_changes : MethodName := ⟨RX6, "changes", "(II)I"⟩
abbrev cX6_lengthOf : ByteArray := prog_8_method_25_code
def yX6_lengthOf : MethodName := ⟨RX6, "lengthOf", "(I)I"⟩
abbrev cX6_length : ByteArray := prog_8_method_26_code
def yX6_length : MethodName := ⟨RX6, "length", "(I)I"⟩
abbrev cX6_search : ByteArray := prog_8_method_27_code
def yX6_search : MethodName := ⟨RX6, "search", "()I"⟩
abbrev cX6_found : ByteArray := prog_8_method_28_code
def yX6_found : MethodName := ⟨RX6, "found", "()I"⟩
abbrev cX6_best : ByteArray := prog_8_method_29_code
def yX6_best : MethodName := ⟨RX6, "best", "(I)I"⟩
abbrev cX6_hasSplit : ByteArray := prog_8_method_30_code
def yX6_hasSplit : MethodName := ⟨RX6, "hasSplit", "(I)Z"⟩
abbrev cX6_split : ByteArray := prog_8_method_31_code
def yX6_split : MethodName := ⟨RX6, "split", "(II)Z"⟩
abbrev cX6_sharing : ByteArray := prog_8_method_32_code
def yX6_sharing : MethodName := ⟨RX6, "sharing", "(I)I"⟩
abbrev cX6_share : ByteArray := prog_8_method_33_code
def yX6_share : MethodName := ⟨RX6, "share", "(I)F"⟩
abbrev cX6_distance : ByteArray := prog_8_method_34_code
def yX6_distance : MethodName := ⟨RX6, "distance", "(II)I"⟩
abbrev cX6_ones : ByteArray := prog_8_method_35_code
def yX6_ones : MethodName := ⟨RX6, "ones", "(I)I"⟩
abbrev cX6_leastOf : ByteArray := prog_8_method_36_code
def yX6_leastOf : MethodName := ⟨RX6, "leastOf", "(I)I"⟩
abbrev cX6_mostOf : ByteArray := prog_8_method_37_code
def yX6_mostOf : MethodName := ⟨RX6, "mostOf", "(I)I"⟩
abbrev cX6_sum : ByteArray := prog_8_method_38_code
def yX6_sum : MethodName := ⟨RX6, "sum", "(Z)I"⟩
abbrev cX6_consistency : ByteArray := prog_8_method_39_code
def yX6_consistency : MethodName := ⟨RX6, "consistency", "(I)F"⟩
abbrev cX6_retention : ByteArray := prog_8_method_40_code
def yX6_retention : MethodName := ⟨RX6, "retention", "(I)F"⟩
abbrev cX6_put : ByteArray := prog_8_method_41_code
def yX6_put : MethodName := ⟨RX6, "put", "(I)V"⟩
abbrev cX6_part : ByteArray := prog_8_method_42_code
def yX6_part : MethodName := ⟨RX6, "part", "(II)I"⟩
abbrev cX6_spread : ByteArray := prog_8_method_43_code
def yX6_spread : MethodName := ⟨RX6, "spread", "(II)I"⟩
abbrev cX6_writeSplits : ByteArray := prog_8_method_44_code
def yX6_writeSplits : MethodName := ⟨RX6, "writeSplits", "()I"⟩
abbrev cX6_write : ByteArray := prog_8_method_45_code
def yX6_write : MethodName := ⟨RX6, "write", "(I)I"⟩
abbrev cX6_common : ByteArray := prog_8_method_46_code
def yX6_common : MethodName := ⟨RX6, "common", "(F)I"⟩
abbrev cX6_written : ByteArray := prog_8_method_47_code
def yX6_written : MethodName := ⟨RX6, "written", "(I)C"⟩
def RJ6 : String := "java/lang/Integer"
def TJ6 : u_T := fun k => match k with
  | _ => ("", "", "", false)
def tyJ6 : Nat → FieldType := fun k => match k with
  | _ => .int
abbrev wsJ60 : List Cond := u_ws RJ6 TJ6 0
theorem nmJ6 : ∀ a, a < 0 → ∀ b, b < 0 → a ≠ b → (TJ6 a).2.1 ≠ (TJ6 b).2.1 := by decide +kernel
theorem tyJ6_ok : ∀ k, k < 0 → parseFieldDescriptor (TJ6 k).2.2.1 = some (tyJ6 k) := by decide +kernel
abbrev cJ6_bitCount_0f7a4 : ByteArray := prog_13_method_49_code
def yJ6_bitCount_0f7a4 : MethodName := ⟨RJ6, "bitCount", "(I)I"⟩
def RJ9 : String := "java/lang/Math"
def TJ9 : u_T := fun k => match k with
  | _ => ("", "", "", false)
def tyJ9 : Nat → FieldType := fun k => match k with
  | _ => .int
abbrev wsJ90 : List Cond := u_ws RJ9 TJ9 0
theorem nmJ9 : ∀ a, a < 0 → ∀ b, b < 0 → a ≠ b → (TJ9 a).2.1 ≠ (TJ9 b).2.1 := by decide +kernel
theorem tyJ9_ok : ∀ k, k < 0 → parseFieldDescriptor (TJ9 k).2.2.1 = some (tyJ9 k) := by decide +kernel
abbrev cJ9_max_7cf53 : ByteArray := prog_14_method_65_code
def yJ9_max_7cf53 : MethodName := ⟨RJ9, "max", "(II)I"⟩
abbrev cJ9_min_7cf53 : ByteArray := prog_14_method_69_code
def yJ9_min_7cf53 : MethodName := ⟨RJ9, "min", "(II)I"⟩
def RJ0 : String := "java/lang/String"
def TJ0 : u_T := fun k => match k with
  | _ => ("", "", "", false)
def tyJ0 : Nat → FieldType := fun k => match k with
  | _ => .int
abbrev wsJ00 : List Cond := u_ws RJ0 TJ0 0
theorem nmJ0 : ∀ a, a < 0 → ∀ b, b < 0 → a ≠ b → (TJ0 a).2.1 ≠ (TJ0 b).2.1 := by decide +kernel
theorem tyJ0_ok : ∀ k, k < 0 → parseFieldDescriptor (TJ0 k).2.2.1 = some (tyJ0 k) := by decide +kernel
def RJ10 : String := "java/lang/System"
def TJ10 : u_T := fun k => match k with
  | _ => ("", "", "", false)
def tyJ10 : Nat → FieldType := fun k => match k with
  | _ => .int
abbrev wsJ100 : List Cond := u_ws RJ10 TJ10 0
theorem nmJ10 : ∀ a, a < 0 → ∀ b, b < 0 → a ≠ b → (TJ10 a).2.1 ≠ (TJ10 b).2.1 := by decide +kernel
theorem tyJ10_ok : ∀ k, k < 0 → parseFieldDescriptor (TJ10 k).2.2.1 = some (tyJ10 k) := by decide +kernel
def RJ7 : String := "java/util/Arrays"
def TJ7 : u_T := fun k => match k with
  | _ => ("", "", "", false)
def tyJ7 : Nat → FieldType := fun k => match k with
  | _ => .int
abbrev wsJ70 : List Cond := u_ws RJ7 TJ7 0
theorem nmJ7 : ∀ a, a < 0 → ∀ b, b < 0 → a ≠ b → (TJ7 a).2.1 ≠ (TJ7 b).2.1 := by decide +kernel
theorem tyJ7_ok : ∀ k, k < 0 → parseFieldDescriptor (TJ7 k).2.2.1 = some (tyJ7 k) := by decide +kernel
abbrev cJ7_fill_d0a16 : ByteArray := prog_19_method_101_code
def yJ7_fill_d0a16 : MethodName := ⟨RJ7, "fill", "([JJ)V"⟩
abbrev cJ7_fill_53178 : ByteArray := prog_19_method_103_code
def yJ7_fill_53178 : MethodName := ⟨RJ7, "fill", "([II)V"⟩
def RL : String := "ShortTreesLaw"
abbrev cL_type : ByteArray := method_3_code
def yL_type : MethodName := ⟨RL, "type", "(LShortTrees;C[J)I"⟩
abbrev cL_states : ByteArray := method_4_code
def yL_states : MethodName := ⟨RL, "states", "(LShortTrees;II[J)I"⟩
abbrev cL_weigh : ByteArray := method_5_code
def yL_weigh : MethodName := ⟨RL, "weigh", "(LShortTrees;II[J)I"⟩
abbrev cL_changes : ByteArray := method_6_code
def yL_changes : MethodName := ⟨RL, "changes", "(LShortTrees;II[J)I"⟩
abbrev cL_length : ByteArray := method_7_code
def yL_length : MethodName := ⟨RL, "length", "(LShortTrees;I[J)I"⟩
abbrev cL_search : ByteArray := method_8_code
def yL_search : MethodName := ⟨RL, "search", "(LShortTrees;[J)I"⟩
abbrev cL_best : ByteArray := method_9_code
def yL_best : MethodName := ⟨RL, "best", "(LShortTrees;I[J)I"⟩
abbrev cL_split : ByteArray := method_10_code
def yL_split : MethodName := ⟨RL, "split", "(LShortTrees;II[J)I"⟩
abbrev cL_share : ByteArray := method_11_code
def yL_share : MethodName := ⟨RL, "share", "(LShortTrees;I[D)I"⟩
abbrev cL_distance : ByteArray := method_12_code
def yL_distance : MethodName := ⟨RL, "distance", "(LShortTrees;II[J)I"⟩
abbrev cL_consistency : ByteArray := method_13_code
def yL_consistency : MethodName := ⟨RL, "consistency", "(LShortTrees;I[D)I"⟩
abbrev cL_retention : ByteArray := method_14_code
def yL_retention : MethodName := ⟨RL, "retention", "(LShortTrees;I[D)I"⟩
abbrev cL_write : ByteArray := method_15_code
def yL_write : MethodName := ⟨RL, "write", "(LShortTrees;I[J)I"⟩
abbrev cL_common : ByteArray := method_16_code
def yL_common : MethodName := ⟨RL, "common", "(LShortTrees;F[J)I"⟩
abbrev cL_law : ByteArray := code
def yL_law : MethodName := ⟨RL, "law", "([I)Z"⟩
abbrev vwCl : List vw_C := [(RX0, TX0, 3), (RX1, TX1, 4), (RX2, TX2, 4), (RX3, TX3, 3), (RX4, TX4, 7), (RX5, TX5, 7), (RX6, TX6, 27)]
end
section
/-! ===== BEGIN words of one list among another's, by their places ===== -/
theorem goodIn_r {big : List Cond} (ws : List Cond) (ps : List Nat) (hp : ws = ps.filterMap (fun i => big[i]?)) (h : ws.all goodWord = true) : GoodIn big ws := by
  intro w hw
  have h1 := List.all_eq_true.mp h w hw
  rw [hp] at hw
  obtain ⟨i, -, hi⟩ := List.mem_filterMap.mp hw
  have hm : w ∈ big := by first | exact List.mem_of_getElem? hi | exact List.getElem?_mem hi
  exact ⟨hm, good_of_word h1⟩
theorem goodIn_app {big a b : List Cond} (ha : GoodIn big a) (hb : GoodIn big b) : GoodIn big (a ++ b) := fun w h => (List.mem_append.mp h).elim (ha w) (hb w)
theorem goodIn_ca {big a b : List Cond} {c : Cond} (ha : GoodIn big (c :: a)) (hb : GoodIn big b) : GoodIn big (c :: (a ++ b)) := fun w h => (List.mem_cons.mp h).elim (fun e => ha w (List.mem_cons.mpr (Or.inl e))) (fun h => (List.mem_append.mp h).elim (fun h => ha w (List.mem_cons.mpr (Or.inr h))) (hb w))
theorem goodIn_sub {big ws : List Cond} (hm : ∀ w ∈ ws, w ∈ big) (h : ws.all goodWord = true) : GoodIn big ws := fun w hw => ⟨hm w hw, good_of_word (List.all_eq_true.mp h w hw)⟩
/-! ===== END ===== -/

/-! ===== BEGIN exceptions that leave a method, and their catching by the caller (launches without stack traces) ===== -/
section VXA
/-! The laws vx_back, vx_callV, vx_callS, vx_callSW, vx_throw0, vx_throwS follow proofs of the library, with one case more: JvmDerived/Free/Laws.lean (Back.of_free), Shelf42/LK1.lean (callV, callS), Shelf/KitTraced.lean (throwNew0V, throwNewS). -/
/-- where a method has thrown q: the class by its name, the cell, what was written, the world -/
def vx_T (XC : String → State → State → Prop) (st : State) (q : Addr) (t : State) (mc ms : Nat) (free : Addr → Prop) : Prop :=
  ∃ (E : String) (ce : Cell) (L : List Loc), XC E st t ∧ t.heap[q]? = some ce ∧ ce.vm = .none ∧ st.vm.findClass E = some ce.cls ∧ st.WarmedH t.vm ∧ st.sameButNew ({ t with vm := st.vm } : State) L mc ms ∧ ∀ z ∈ L, free z.base
def vx_Q (Qc : Array Value → State → Outcome → State → Prop) (XC : String → State → State → Prop) (mc ms : Nat) (free : Addr → Prop) : Array Value → State → Outcome → State → Prop := fun a st o t =>
  (Qc a st o t ∧ ∃ L, FrameEnd st o t L mc ms ∧ ∀ q ∈ L, free q.base) ∨ ∃ q, o = .threw q ∧ vx_T XC st q t mc ms free
/-- a callee that returns or throws -/
def vx_Met (l : Launch) (y : MethodName) (ws : List Cond) (rm : Room) (Pc : Array Value → State → Prop) (Qc : Array Value → State → Outcome → State → Prop) (XC : String → State → State → Prop) (mc ms : Nat) (free : Addr → Prop) : Prop :=
  MetFree l y (headSpec ws rm) Pc (fun _ _ _ _ _ => True) (vx_Q Qc XC mc ms free)
def vx_Post (XC : String → State → State → Prop) (mc ms : Nat) (free : Addr → Prop) : Pt → Array Value → Addr → Pt → Prop := fun A a q B =>
  ∃ (g : JFrame) (mk : MethodId) (t : State) (L : List Loc) (E : String) (ce : Cell), B.U.heap = t.heap ∧ B.U.vm = t.vm ∧ XC E (A.U.calling g mk a) t ∧ t.heap[q]? = some ce ∧ ce.vm = .none ∧ A.U.vm.findClass E = some ce.cls ∧ B.locs = A.locs ++ L ∧ (∀ z ∈ L, free z.base) ∧ B.cells = A.cells + mc ∧ B.slots = A.slots + ms
def vx_Back (l : Launch) (R : Room) (p : Program) (e : Env) (below : List Frame) (s : State) (sargs : Array Value) (y : MethodName) (len W9 : Nat)
    (Pre : Pt → Array Value → Prop) (Post : Pt → Array Value → Option Value → Pt → Prop) (PostX : Pt → Array Value → Addr → Pt → Prop) : Prop :=
  ∀ (m : MethodId) (meth : Method) (c : Code) (A : Pt) (g : JFrame) (ig : Instr) (mk : MethodId) (a : Array Value),
    Stand p l e R s m sargs below meth c A.U A.locs A.cells A.slots → g.method = m → g.locals.size = c.maxLocals → decode c.code g.pc = .ok (ig, len) →
    2 * g.monitorRoom + (g.stack.map fun v => v.category).sum ≤ W9 → A.U.methodNamed? y = some mk → Pre A a →
    (∃ (v : Option Value) (B : Pt), Stand p l e R s m sargs below meth c B.U B.locs B.cells B.slots ∧ Post A a v B ∧
      Steps p.tables e below (doInvoke e (A.U.setTop g) [] mk a).1 (B.U.setTop { g with pc := g.pc + len, stack := v.toList ++ g.stack })) ∨
    (∃ (q : Addr) (B : Pt), Stand p l e R s m sargs below meth c B.U B.locs B.cells B.slots ∧ PostX A a q B ∧
      Steps p.tables e below (doInvoke e (A.U.setTop g) [] mk a).1 ((B.U.setTop g).pushFrame (.throwing q)))
section Payer
variable {l : Launch} {R : Room} {p : Program} {e : Env} {below : List Frame} {s : State} {sargs : Array Value} {y : MethodName} {len W9 : Nat}
theorem vx_back {ws : List Cond} {rm : Room} {Pc : Array Value → State → Prop} {Qc : Array Value → State → Outcome → State → Prop} {XC : String → State → State → Prop} {mc ms : Nat} {free : Addr → Prop} {bytes : ByteArray} {maxL : Nat} {ret : Option FieldType}
    (hM : vx_Met l y ws rm Pc Qc XC mc ms free) (hblind : FrameBlind Pc) (hrc : rm.cells = mc) (hrs : rm.slots = ms)
    (hframes : rm.frames + 1 ≤ R.frames) (hlocals : W9 + (maxL + 11) + rm.locals ≤ R.locals)
    (hws : ∀ w ∈ ws, ∀ a' U, s.WarmedH U.vm → w.before a' U = true) (hcode : Cond.code y bytes maxL ret ∈ ws) (hinit : ∀ a' U, s.WarmedH U.vm → (Cond.initialized y.cls).before a' U = true) :
    vx_Back l R p e below s sargs y len W9 (PreOf R mc ms Pc) (PostOf Qc mc ms free) (vx_Post XC mc ms free) := by
  intro m meth c A g ig mk a X hg hsize hdg hW hn hp
  have h1 : (headSpec ws rm).pre.before a A.U = true := atoms_intro fun w hw => hws w hw _ _ X.warmed
  have h2 : (Cond.code y bytes maxL ret).before a A.U = true := hws _ hcode _ _ X.warmed
  have h3 : (Cond.initialized y.cls).before a A.U = true := hinit _ _ X.warmed
  have h4 : A.cells + (headSpec ws rm).room.cells ≤ R.cells := by rw [show (headSpec ws rm).room.cells = mc from hrc]; exact hp.1
  have h5 : A.slots + (headSpec ws rm).room.slots ≤ R.slots := by rw [show (headSpec ws rm).room.slots = ms from hrs]; exact hp.2.1
  have hPc : Pc a (A.U.calling g mk a) := hblind _ _ _ _ hp.2.2
  obtain ⟨U, Ls, c0, s0⟩ := A
  dsimp only [Pt.U, Pt.locs, Pt.cells, Pt.slots] at h1 h2 h3 h4 h5 X hn hPc ⊢
  obtain ⟨methY, cY, hmY, hcY, -, hlY, -, -, -, -⟩ := Cond.code_spec hn h2
  obtain ⟨kY, hkY, -⟩ := className_of_methodNamed hn
  have hinitY : kY.init = .initialized := Cond.initialized_spec (findClass_of_methodNamed hn) hkY h3
  have h : At U g.method c below := by rw [hg]; exact X.here
  have hlocals9 : W9 + (maxL + 11) + (headSpec ws rm).room.locals ≤ R.locals := hlocals
  have happ : (headSpec ws rm).appliesLoose y e.platform (U.calling g mk a) = true :=
    Spec.appliesLoose_calling (g := g) h hdg hn hkY hinitY
      (X.room_calling (g := g) (R' := (headSpec ws rm).room) hsize hmY hcY hframes (by rw [hlY]; omega) h4 h5) h1
  obtain ⟨mid, hmid⟩ := h.above
  have hfr : (U.setTop g).frames = (.java g :: mid) ++ below := by rw [State.frames_setTop' g h.top, hmid]; rfl
  obtain ⟨o, s₂, hsteps, -, hend, hq⟩ := Steps.callFree hM p X.admits X.cas X.clock (acts := []) hfr happ hPc trivial
  have hq' : vx_Q Qc XC mc ms free a (U.calling g mk a) o s₂ := hq
  rw [State.frames_setTop' g h.top] at hend
  obtain ⟨g₀, hg0⟩ := Option.isSome_iff_exists.mp h.top
  obtain ⟨r, hr⟩ := State.topJava?_eq_some.mp hg0
  have hr' : (({ U with heap := s₂.heap, slotsUsed := s₂.slotsUsed } : State).setVm s₂.vm).frames = .java g₀ :: r := hr
  rcases hq' with ⟨hqc, L, hfe, hL⟩ | ⟨q, rfl, E, ce, L, hx, hce, hcv, hcl, hW₂, hsm, hL⟩
  · obtain ⟨⟨v, rfl⟩, hW₂, e2, q2, q3, q4, q5, q6⟩ := id hfe
    have e3 : s₂ = ({ (U.calling g mk a).setFrames s₂.frames with heap := s₂.heap, slotsUsed := s₂.slotsUsed } : State).setVm s₂.vm := by
      have : s₂ = ({ s₂ with vm := (U.calling g mk a).vm } : State).setVm s₂.vm := rfl
      rw [e2] at this
      exact this
    obtain ⟨c₂, i₂, len₂, hc₂, hd₂, hf₂⟩ := hend
    have hW' : U.WarmedH s₂.vm := hW₂
    have hcc : c₂ = c := by
      have h1 : s₂.code? g.method = U.code? g.method := by
        rw [State.code?_eq, State.code?_eq, hW'.alike.method?]
      exact Option.some.inj (hc₂.symm.trans (h1.trans h.code))
    subst hcc
    have hlen : len₂ = len := by rw [hdg] at hd₂; cases hd₂; rfl
    subst hlen
    have hs₂ : s₂ = (({ U with heap := s₂.heap, slotsUsed := s₂.slotsUsed } : State).setVm s₂.vm).setTop { g with pc := g.pc + len₂, stack := v.toList ++ g.stack } := by
      refine e3.trans ?_
      rw [hf₂, State.calling_eq h.top, State.setFrames_setFrames, State.setTop_of_frames _ hr', hr]
      rfl
    have hsame : U.sameButNew ({ U with heap := s₂.heap, slotsUsed := s₂.slotsUsed } : State) L mc ms := by
      refine ⟨?_, q2, q3, q4, q5, q6⟩
      obtain ⟨t, ht, -⟩ := State.frames_cons hr
      show ({ U with heap := s₂.heap, slotsUsed := s₂.slotsUsed } : State) = { U.setFrames U.frames with heap := s₂.heap, slotsUsed := s₂.slotsUsed }
      rw [State.setFrames_self ht]
    subst hg
    refine Or.inl ⟨v, ⟨(({ U with heap := s₂.heap, slotsUsed := s₂.slotsUsed } : State).setVm s₂.vm), Ls ++ L, c0 + mc, s0 + ms⟩,
      ⟨X.admits, X.cas, X.clock, X.frames, X.room, X.hears, X.method, X.code, (X.here.setHeapUsed s₂.heap s₂.slotsUsed).setVm hW'.alike, X.tail, State.WarmedH.trans X.warmed hW', X.limits, X.bytes, X.same.trans (hsame.setVm s.vm)⟩,
      ⟨g, mk, s₂, L, rfl, rfl, hqc, rfl, hL, rfl, rfl⟩, ?_⟩
    show Steps p.tables e below _ ((({ U with heap := s₂.heap, slotsUsed := s₂.slotsUsed } : State).setVm s₂.vm).setTop { g with pc := g.pc + len₂, stack := v.toList ++ g.stack })
    rw [← hs₂]
    exact hsteps
  · obtain ⟨e2, q2, q3, q4, q5, q6⟩ := id hsm
    have e3 : s₂ = ({ (U.calling g mk a).setFrames s₂.frames with heap := s₂.heap, slotsUsed := s₂.slotsUsed } : State).setVm s₂.vm := by
      have : s₂ = ({ s₂ with vm := (U.calling g mk a).vm } : State).setVm s₂.vm := rfl
      rw [e2] at this
      exact this
    have hf₂ : s₂.frames = .throwing q :: .java g :: U.frames.tail := hend
    have hW' : U.WarmedH s₂.vm := hW₂
    have hs₂ : s₂ = ((({ U with heap := s₂.heap, slotsUsed := s₂.slotsUsed } : State).setVm s₂.vm).setTop g).pushFrame (.throwing q) := by
      refine e3.trans ?_
      rw [hf₂, State.calling_eq h.top, State.setFrames_setFrames, State.pushFrame, State.frames_setTop _ hr', State.setTop_of_frames _ hr', State.setFrames_setFrames, hr]
      rfl
    have hsame : U.sameButNew ({ U with heap := s₂.heap, slotsUsed := s₂.slotsUsed } : State) L mc ms := by
      refine ⟨?_, q2, q3, q4, q5, q6⟩
      obtain ⟨t, ht, -⟩ := State.frames_cons hr
      show ({ U with heap := s₂.heap, slotsUsed := s₂.slotsUsed } : State) = { U.setFrames U.frames with heap := s₂.heap, slotsUsed := s₂.slotsUsed }
      rw [State.setFrames_self ht]
    subst hg
    refine Or.inr ⟨q, ⟨(({ U with heap := s₂.heap, slotsUsed := s₂.slotsUsed } : State).setVm s₂.vm), Ls ++ L, c0 + mc, s0 + ms⟩,
      ⟨X.admits, X.cas, X.clock, X.frames, X.room, X.hears, X.method, X.code, (X.here.setHeapUsed s₂.heap s₂.slotsUsed).setVm hW'.alike, X.tail, State.WarmedH.trans X.warmed hW', X.limits, X.bytes, X.same.trans (hsame.setVm s.vm)⟩,
      ⟨g, mk, s₂, L, E, ce, rfl, rfl, hx, hce, hcv, hcl, rfl, hL, rfl, rfl⟩, ?_⟩
    show Steps p.tables e below _ (((({ U with heap := s₂.heap, slotsUsed := s₂.slotsUsed } : State).setVm s₂.vm).setTop g).pushFrame (.throwing q))
    rw [← hs₂]
    exact hsteps
end Payer
section Calls
variable {p : Program} {l : Launch} {e : Env} {R : Room} {s : State} {m : MethodId} {args : Array Value} {below : List Frame} {meth : Method} {c : Code} {T : State} {locs : List Loc} {cells slots : Nat}
theorem vx_callV (X : Stand p l e R s m args below meth c T locs cells slots) (hexec : p.tables.exec = Jvm.exec) {own C : String} {index : Nat} {y : MethodName} {bytes : ByteArray} {maxL : Nat} {ret : Option FieldType}
    (hown : s.vm.findClass own = some m.cls) (hlink : (Cond.methodLink own index y).before args s = true) (hinst : (Cond.instanceMethod y).before args s = true) (hsel : (Cond.selects C y y).before args s = true)
    (hcode : (Cond.code y bytes maxL ret).before args s = true) (hy : y.cls ≠ "java/lang/invoke/MethodHandle" ∧ y.cls ≠ "java/lang/invoke/VarHandle")
    {W9 : Nat} {Pre : Pt → Array Value → Prop} {Post : Pt → Array Value → Option Value → Pt → Prop} {PostX : Pt → Array Value → Addr → Pt → Prop} (hK : vx_Back l R p e below s args y 3 W9 Pre Post PostX)
    {b : Addr} {cellB : Cell} (hcell : T.heap[b]? = some cellB) (hobj : cellB.vm.isStatics = false) (hcls : s.vm.findClass C = some cellB.cls)
    {g : JFrame} (hg : g.method = m) (hsize : g.locals.size = c.maxLocals) {argsL rest : List Value} (hlen : ∀ sig, parseMethodDescriptor y.desc = some sig → argsL.length = sig.parameters.length)
    (hstack : g.stack = argsL.reverse ++ .ref b :: rest) (hW : 2 * g.monitorRoom + (rest.map fun v => v.category).sum ≤ W9) (hdg : decode c.code g.pc = .ok (.invokevirtual index, 3))
    (hpre : ∀ vm₁, s.WarmedH vm₁ → Pre ⟨T.setVm vm₁, locs, cells, slots⟩ (Value.ref b :: argsL).toArray) :
    (∃ (v : Option Value) (vm₁ : Vm) (B : Pt), s.WarmedH vm₁ ∧ Stand p l e R s m args below meth c B.U B.locs B.cells B.slots ∧ Post ⟨T.setVm vm₁, locs, cells, slots⟩ (Value.ref b :: argsL).toArray v B ∧
      ∀ target, Steps p.tables e below (B.U.setTop { g with pc := g.pc + 3, stack := v.toList ++ rest }) target → Steps p.tables e below (T.setTop g) target) ∨
    (∃ (q : Addr) (vm₁ : Vm) (B : Pt), s.WarmedH vm₁ ∧ Stand p l e R s m args below meth c B.U B.locs B.cells B.slots ∧ PostX ⟨T.setVm vm₁, locs, cells, slots⟩ (Value.ref b :: argsL).toArray q B ∧
      Steps p.tables e below (T.setTop g) ((B.U.setTop { g with stack := rest }).pushFrame (.throwing q))) := by
  obtain ⟨mk, methM, hnamed, hmethM, hstM, habM⟩ := Cond.instanceMethod_spec hinst
  obtain ⟨methM', cM, hmethM', -, -, -, -, -, -, hsigM⟩ := Cond.code_spec hnamed hcode
  cases hmethM.symm.trans hmethM'
  obtain ⟨c2, r2, m2, q1, q2, q3, q4, kP, hkP, hkPi⟩ := Cond.selects_spec hsel
  cases hcls.symm.trans q1
  cases (State.methodFound?_of_named hnamed hy).symm.trans q2
  cases hnamed.symm.trans q3
  have hselP : selectMethod e.platform s.vm cellB.cls mk = .method mk := by rw [Launch.admits_selectMethod X.admits]; exact q4
  obtain ⟨vm₁, X₁, hstep₁⟩ := X.invokevirtual hexec hown hlink hnamed hmethM hstM hkP hkPi hy (a := b) (cell := cellB) hcell
    (fun z h => by rw [h] at hobj; cases hobj) hselP hmethM habM hkP hkPi (g := g) hg (argsL := argsL) (rest := rest) (hlen _ hsigM) hstack hdg
  rcases hK m meth c ⟨T.setVm vm₁, locs, cells, slots⟩ { g with stack := rest } (.invokevirtual index) mk (Value.ref b :: argsL).toArray X₁ hg hsize hdg hW (X₁.named hnamed) (hpre vm₁ X₁.warmed) with ⟨v, B, X', hpost, hsteps⟩ | ⟨q, B, X', hpost, hsteps⟩
  · exact Or.inl ⟨v, vm₁, B, X₁.warmed, X', hpost, fun target h => hstep₁ _ fun acts => by rw [doInvoke_state]; exact hsteps.trans h⟩
  · exact Or.inr ⟨q, vm₁, B, X₁.warmed, X', hpost, hstep₁ _ fun acts => by rw [doInvoke_state]; exact hsteps⟩
theorem vx_callS (X : Stand p l e R s m args below meth c T locs cells slots) (hexec : p.tables.exec = Jvm.exec) {own : String} {index : Nat} {y : MethodName} {bytes : ByteArray} {maxL : Nat} {ret : Option FieldType}
    (hown : s.vm.findClass own = some m.cls) (hlink : (Cond.methodLink own index y).before args s = true) (hstat : (Cond.static y).before args s = true) (hinit : (Cond.initialized y.cls).before args s = true)
    (hcode : (Cond.code y bytes maxL ret).before args s = true) (hy : y.cls ≠ "java/lang/invoke/MethodHandle" ∧ y.cls ≠ "java/lang/invoke/VarHandle")
    {W9 : Nat} {Pre : Pt → Array Value → Prop} {Post : Pt → Array Value → Option Value → Pt → Prop} {PostX : Pt → Array Value → Addr → Pt → Prop} (hK : vx_Back l R p e below s args y 3 W9 Pre Post PostX)
    {g : JFrame} (hg : g.method = m) (hsize : g.locals.size = c.maxLocals) {argsL rest : List Value} (hlen : ∀ sig, parseMethodDescriptor y.desc = some sig → argsL.length = sig.parameters.length)
    (hstack : g.stack = argsL.reverse ++ rest) (hW : 2 * g.monitorRoom + (rest.map fun v => v.category).sum ≤ W9) (hdg : decode c.code g.pc = .ok (.invokestatic index, 3))
    (hpre : ∀ vm₁, s.WarmedH vm₁ → Pre ⟨T.setVm vm₁, locs, cells, slots⟩ argsL.toArray) :
    (∃ (v : Option Value) (vm₁ : Vm) (B : Pt), s.WarmedH vm₁ ∧ Stand p l e R s m args below meth c B.U B.locs B.cells B.slots ∧ Post ⟨T.setVm vm₁, locs, cells, slots⟩ argsL.toArray v B ∧
      ∀ target, Steps p.tables e below (B.U.setTop { g with pc := g.pc + 3, stack := v.toList ++ rest }) target → Steps p.tables e below (T.setTop g) target) ∨
    (∃ (q : Addr) (vm₁ : Vm) (B : Pt), s.WarmedH vm₁ ∧ Stand p l e R s m args below meth c B.U B.locs B.cells B.slots ∧ PostX ⟨T.setVm vm₁, locs, cells, slots⟩ argsL.toArray q B ∧
      Steps p.tables e below (T.setTop g) ((B.U.setTop { g with stack := rest }).pushFrame (.throwing q))) := by
  obtain ⟨mk, hnamed⟩ := Cond.code_named hcode
  obtain ⟨methM, cM, hmethM, -, -, -, -, -, -, hsigM⟩ := Cond.code_spec hnamed hcode
  have hstatic : methM.isStatic = true := Cond.static_spec hnamed hmethM hstat
  obtain ⟨kP, hkP, -⟩ := className_of_methodNamed hnamed
  have hinitP : kP.init = .initialized := Cond.initialized_spec (findClass_of_methodNamed hnamed) hkP hinit
  obtain ⟨vm₁, X₁, hstep₁⟩ := X.invokestatic hexec hown hlink hnamed hmethM hstatic hkP hinitP hy (g := g) hg (argsL := argsL) (rest := rest) (hlen _ hsigM) hstack hdg
  rcases hK m meth c ⟨T.setVm vm₁, locs, cells, slots⟩ { g with stack := rest } (.invokestatic index) mk argsL.toArray X₁ hg hsize hdg hW (X₁.named hnamed) (hpre vm₁ X₁.warmed) with ⟨v, B, X', hpost, hsteps⟩ | ⟨q, B, X', hpost, hsteps⟩
  · exact Or.inl ⟨v, vm₁, B, X₁.warmed, X', hpost, fun target h => hstep₁ _ fun acts => by rw [doInvoke_state]; exact hsteps.trans h⟩
  · exact Or.inr ⟨q, vm₁, B, X₁.warmed, X', hpost, hstep₁ _ fun acts => by rw [doInvoke_state]; exact hsteps⟩
end Calls
theorem vx_cls {s : State} {T : State} {vm₁ : Vm} {E : String} {k : ClassId} (hW : s.WarmedH vm₁) (h : (T.setVm vm₁).vm.findClass E = some k) : s.vm.findClass E = some k := by
  have h1 : vm₁.findClass E = some k := h
  rw [hW.alike.findClass] at h1
  exact h1
/-- the method's frame g, with q thrown over it -/
def vx_W (p : Program) (l : Launch) (e : Env) (R : Room) (s : State) (m : MethodId) (args : Array Value) (below : List Frame) (meth : Method) (c : Code) (H : Heap) (locs : List Loc) (cells slots : Nat) (Q : State → Prop) (g : JFrame) (q : Addr) : Prop :=
  ∀ T : State, T.heap = H → Stand p l e R s m args below meth c T locs cells slots → ∃ t, Steps p.tables e below ((T.setTop g).pushFrame (.throwing q)) t ∧ Q t
def vx_Run (p : Program) (l : Launch) (e : Env) (R : Room) (s : State) (m : MethodId) (args : Array Value) (below : List Frame) (meth : Method) (c : Code) (H : Heap) (locs : List Loc) (cells slots mc ms : Nat) (g : JFrame) (rest : List Value) (Qa : State → Outcome → State → Prop) (XC : String → State → State → Prop) (free : Addr → Prop) : Prop :=
  ∀ T : State, T.heap = H → Stand p l e R s m args below meth c T locs cells slots →
    (∃ (v : Option Value) (st₀ t T' : State) (L : List Loc), st₀.heap = H ∧ Stand p l e R s m args below meth c T' (locs ++ L) (cells + mc) (slots + ms) ∧ (∀ q ∈ L, free q.base) ∧ T'.heap = t.heap ∧ T'.vm = t.vm ∧ Qa st₀ (.returned v) t ∧
      Goes p e below T g T' { g with pc := g.pc + 3, stack := v.toList ++ rest }) ∨
    (∃ (q : Addr) (st₀ t T' : State) (L : List Loc) (E : String) (ce : Cell), st₀.heap = H ∧ Stand p l e R s m args below meth c T' (locs ++ L) (cells + mc) (slots + ms) ∧ (∀ z ∈ L, free z.base) ∧ T'.heap = t.heap ∧ T'.vm = t.vm ∧ XC E st₀ t ∧ t.heap[q]? = some ce ∧ ce.vm = .none ∧ s.vm.findClass E = some ce.cls ∧
      Steps p.tables e below (T.setTop g) ((T'.setTop { g with stack := rest }).pushFrame (.throwing q)))
def vx_X {S : Type} (px : S → Prop) (B : String → S → State → Prop) (A : Nat → Prop) : String → State → State → Prop := fun E st t => ∃ u : S, px u ∧ B E u t ∧ va_F A st t
section Runs
variable {p : Program} {l : Launch} {e : Env} {R : Room} {s : State} {m : MethodId} {args : Array Value} {below : List Frame} {meth : Method} {c : Code} {H : Heap} {locs : List Loc} {cells slots : Nat}
variable {y : MethodName} {bytes cc : ByteArray} {maxL nL mc ms n index : Nat} {ret : Option FieldType} {ws : List Cond} {rm : Room} {Pc : Array Value → State → Prop} {Qc : Array Value → State → Outcome → State → Prop} {XC : String → State → State → Prop} {free : Addr → Prop} {Ts : List Cond} {own C : String} {b : Addr} {As rest : List Value} {g : JFrame}
theorem vx_callBack (cb : CallB R s args own index y bytes maxL ret ws rm mc ms n) (hM : vx_Met l y ws rm Pc Qc XC mc ms free) (hbl : FrameBlind Pc) : vx_Back l R p e below s args y 3 8 (PreOf R mc ms Pc) (PostOf Qc mc ms free) (vx_Post XC mc ms free) := by
  obtain ⟨hrc, hrs, hfr, hlo, hws, hcw, -, hini, -⟩ := cb
  exact vx_back (bytes := bytes) (maxL := maxL) (ret := ret) hM hbl hrc hrs hfr hlo hws hcw (fun a' U hW => word_at hW (Or.inl (by first | rfl | simp [Cond.onTables, Cond.keeps, Cond.steady])) hini)
theorem vx_runV (S : CallFix p m c cc nL s args Ts own) (hM : vx_Met l y ws rm Pc Qc XC mc ms free) (cw : CallW R s args own C index y bytes maxL ret ws rm mc ms n) (hp : PreV s H C b Pc As)
    (hg : g.method = m) (hn : As.length = n) (hsize : g.locals.size = nL) (hstack : g.stack = As.reverse ++ .ref b :: rest) (hW : 2 * g.monitorRoom + (rest.map fun v => v.category).sum ≤ 8) (hdg : decode cc g.pc = .ok (.invokevirtual index, 3)) (hf : cells + mc ≤ R.cells ∧ slots + ms ≤ R.slots) :
    vx_Run p l e R s m args below meth c H locs cells slots mc ms g rest (Qc (Value.ref b :: As).toArray) XC free := by
  have hK : vx_Back l R p e below s args y 3 8 (PreOf R mc ms Pc) (PostOf Qc mc ms free) (vx_Post XC mc ms free) := vx_callBack cw.1 hM hp.1
  obtain ⟨⟨-, -, -, -, -, -, hcode, -, hy, hlen, hl⟩, hin, hse⟩ := cw
  obtain ⟨hx, hb, hml, ho, -⟩ := S
  obtain ⟨-, ⟨cellB, hcB, hoB, hclB⟩, hPc⟩ := hp
  intro T hT X
  rcases vx_callV X hx (C := C) (bytes := bytes) (maxL := maxL) (ret := ret) ho hl hin hse hcode hy hK (by rw [hT]; exact hcB) hoB hclB hg (hsize.trans hml.symm) (argsL := As) (rest := rest) (fun sig h => hn.trans (hlen sig h)) hstack hW (by rw [hb]; exact hdg)
    (fun vm₁ hW₁ => ⟨hf.1, hf.2, hPc (T.setVm vm₁) hT hW₁⟩) with ⟨v, vm₁, ⟨U', l2, c2, s2⟩, hW₁, X', ⟨g', mk, t, L, e1, e2, hq, h1, hL, h2, h3⟩, st⟩ | ⟨q, vm₁, ⟨U', l2, c2, s2⟩, hW₁, X', ⟨g', mk, t, L, E, ce, e1, e2, hq, hce, hcv, hcl, h1, hL, h2, h3⟩, st⟩
  · dsimp only [Pt.U, Pt.locs, Pt.cells, Pt.slots] at X' e1 e2 h1 h2 h3 st
    subst h1; subst h2; subst h3
    exact Or.inl ⟨v, (T.setVm vm₁).calling g' mk (Value.ref b :: As).toArray, t, U', L, hT, X', hL, e1, e2, hq, st⟩
  · dsimp only [Pt.U, Pt.locs, Pt.cells, Pt.slots] at X' e1 e2 h1 h2 h3 st hcl
    subst h1; subst h2; subst h3
    exact Or.inr ⟨q, (T.setVm vm₁).calling g' mk (Value.ref b :: As).toArray, t, U', L, E, ce, hT, X', hL, e1, e2, hq, hce, hcv, vx_cls hW₁ hcl, st⟩
theorem vx_runS (S : CallFix p m c cc nL s args Ts own) (hM : vx_Met l y ws rm Pc Qc XC mc ms free) (cw : CallB R s args own index y bytes maxL ret ws rm mc ms n ∧ (Cond.static y).before args s = true) (hp : PreS s H Pc As)
    (hg : g.method = m) (hn : As.length = n) (hsize : g.locals.size = nL) (hstack : g.stack = As.reverse ++ rest) (hW : 2 * g.monitorRoom + (rest.map fun v => v.category).sum ≤ 8) (hdg : decode cc g.pc = .ok (.invokestatic index, 3)) (hf : cells + mc ≤ R.cells ∧ slots + ms ≤ R.slots) :
    vx_Run p l e R s m args below meth c H locs cells slots mc ms g rest (Qc As.toArray) XC free := by
  have hK : vx_Back l R p e below s args y 3 8 (PreOf R mc ms Pc) (PostOf Qc mc ms free) (vx_Post XC mc ms free) := vx_callBack cw.1 hM hp.1
  obtain ⟨⟨-, -, -, -, -, -, hcode, hini, hy, hlen, hl⟩, hstt⟩ := cw
  obtain ⟨hx, hb, hml, ho, -⟩ := S
  intro T hT X
  rcases vx_callS X hx (bytes := bytes) (maxL := maxL) (ret := ret) ho hl hstt hini hcode hy hK hg (hsize.trans hml.symm) (argsL := As) (rest := rest) (fun sig h => hn.trans (hlen sig h)) hstack hW (by rw [hb]; exact hdg)
    (fun vm₁ hW₁ => ⟨hf.1, hf.2, hp.2 (T.setVm vm₁) hT hW₁⟩) with ⟨v, vm₁, ⟨U', l2, c2, s2⟩, hW₁, X', ⟨g', mk, t, L, e1, e2, hq, h1, hL, h2, h3⟩, st⟩ | ⟨q, vm₁, ⟨U', l2, c2, s2⟩, hW₁, X', ⟨g', mk, t, L, E, ce, e1, e2, hq, hce, hcv, hcl, h1, hL, h2, h3⟩, st⟩
  · dsimp only [Pt.U, Pt.locs, Pt.cells, Pt.slots] at X' e1 e2 h1 h2 h3 st
    subst h1; subst h2; subst h3
    exact Or.inl ⟨v, (T.setVm vm₁).calling g' mk As.toArray, t, U', L, hT, X', hL, e1, e2, hq, st⟩
  · dsimp only [Pt.U, Pt.locs, Pt.cells, Pt.slots] at X' e1 e2 h1 h2 h3 st hcl
    subst h1; subst h2; subst h3
    exact Or.inr ⟨q, (T.setVm vm₁).calling g' mk As.toArray, t, U', L, E, ce, hT, X', hL, e1, e2, hq, hce, hcv, vx_cls hW₁ hcl, st⟩
end Runs
section Rows
variable {p : Program} {l : Launch} {e : Env} {R : Room} {s : State} {m : MethodId} {args : Array Value} {below : List Frame} {meth : Method} {c : Code} {H : Heap} {locs : List Loc} {cells slots : Nat} {Q : State → Prop}
variable {mc ms : Nat} {free : Addr → Prop} {A0 A1 : Nat → Prop} {H0 : Heap} {a : Array Value} {pc : Nat} {ls : Array Slot} {st0 rest : List Value}
theorem vx_keep {st₀ t T' : State} {L : List Loc} (h0 : st₀.heap = H) (e1 : T'.heap = t.heap) (hS : va_S A0 H0 H locs) (hA : ∀ q, q < H.size → A1 q → A0 q) (hf : ∀ q, free q → A0 q) (hL : ∀ q ∈ L, free q.base) (hF : va_F A1 st₀ t) :
    H.size ≤ T'.heap.size ∧ (∀ q : Nat, q < H.size → ¬ A1 q → T'.heap[q]? = H[q]?) ∧ va_S A0 H0 T'.heap (locs ++ L) := by
  obtain ⟨hz, hk⟩ := hF
  rw [h0] at hz hk
  exact ⟨by rw [e1]; exact hz, fun q h1 h2 => by rw [e1]; exact hk q h1 h2,
    ⟨Nat.le_trans hS.1 (by rw [e1]; exact hz), fun q h1 h2 => by rw [e1, hk q (Nat.lt_of_lt_of_le h1 hS.1) (fun z => h2 (hA q (Nat.lt_of_lt_of_le h1 hS.1) z))]; exact hS.2.1 q h1 h2, fun q hq => by
      rcases List.mem_append.mp hq with h | h
      · exact hS.2.2 q h
      · exact hf _ (hL q h)⟩⟩
theorem vx_calli {S SX : Type} {post : Int32 → S → Prop} {px : SX → Prop} {B : S → State → Prop} {BX : String → SX → State → Prop} {AX : Nat → Prop} (hr : vx_Run p l e R s m args below meth c H locs cells slots mc ms (F0 m pc ls st0) rest (va_Qi post B A1 a) (vx_X px BX AX) free) (hS : va_S A0 H0 H locs) (hA : ∀ q, q < H.size → A1 q → A0 q) (hf : ∀ q, free q → A0 q) (hAX : ∀ q, q < H.size → AX q → A0 q)
    (kx : ∀ (E : String) (ce : Cell) (q9 : Addr) (u : SX) (t : State) (H1 : Heap) (locs1 : List Loc), t.heap = H1 → s.vm.Alike t.vm → px u → BX E u t → H.size ≤ H1.size → (∀ q : Nat, q < H.size → ¬ AX q → H1[q]? = H[q]?) → va_S A0 H0 H1 locs1 → H1[q9]? = some ce → ce.vm = .none → s.vm.findClass E = some ce.cls → vx_W p l e R s m args below meth c H1 locs1 (cells + mc) (slots + ms) Q (F0 m pc ls rest) q9)
    (kk : ∀ (r : Int32) (u : S) (t : State) (H1 : Heap) (locs1 : List Loc), t.heap = H1 → s.vm.Alike t.vm → post r u → B u t → H.size ≤ H1.size → (∀ q : Nat, q < H.size → ¬ A1 q → H1[q]? = H[q]?) → va_S A0 H0 H1 locs1 → W p l e R s m args below meth c H1 locs1 (cells + mc) (slots + ms) Q (F0 m (pc + 3) ls (.int r :: rest))) : W p l e R s m args below meth c H locs cells slots Q (F0 m pc ls st0) := by
  intro T hT X
  rcases hr T hT X with ⟨v, st₀, t, T', L, h0, X', hL, e1, e2, ⟨⟨r, u, hv, hp, hb⟩, hF⟩, st⟩ | ⟨q, st₀, t, T', L, E, ce, h0, X', hL, e1, e2, ⟨u, hp, hb, hF⟩, hce, hcv, hcl, st⟩
  · cases hv
    obtain ⟨k1, k2, k3⟩ := vx_keep h0 e1 hS hA hf hL hF
    obtain ⟨t2, a1, b1⟩ := kk r u t T'.heap (locs ++ L) e1.symm (by rw [← e2]; exact X'.warmed.alike) hp hb k1 k2 k3 T' rfl X'
    exact ⟨t2, st t2 a1, b1⟩
  · obtain ⟨k1, k2, k3⟩ := vx_keep h0 e1 hS hAX hf hL hF
    obtain ⟨t2, a1, b1⟩ := kx E ce q u t T'.heap (locs ++ L) e1.symm (by rw [← e2]; exact X'.warmed.alike) hp hb k1 k2 k3 (by rw [e1]; exact hce) hcv hcl T' rfl X'
    exact ⟨t2, st.trans a1, b1⟩
theorem vx_calll {S SX : Type} {post : Int64 → S → Prop} {px : SX → Prop} {B : S → State → Prop} {BX : String → SX → State → Prop} {AX : Nat → Prop} (hr : vx_Run p l e R s m args below meth c H locs cells slots mc ms (F0 m pc ls st0) rest (va_Ql post B A1 a) (vx_X px BX AX) free) (hS : va_S A0 H0 H locs) (hA : ∀ q, q < H.size → A1 q → A0 q) (hf : ∀ q, free q → A0 q) (hAX : ∀ q, q < H.size → AX q → A0 q)
    (kx : ∀ (E : String) (ce : Cell) (q9 : Addr) (u : SX) (t : State) (H1 : Heap) (locs1 : List Loc), t.heap = H1 → s.vm.Alike t.vm → px u → BX E u t → H.size ≤ H1.size → (∀ q : Nat, q < H.size → ¬ AX q → H1[q]? = H[q]?) → va_S A0 H0 H1 locs1 → H1[q9]? = some ce → ce.vm = .none → s.vm.findClass E = some ce.cls → vx_W p l e R s m args below meth c H1 locs1 (cells + mc) (slots + ms) Q (F0 m pc ls rest) q9)
    (kk : ∀ (r : Int64) (u : S) (t : State) (H1 : Heap) (locs1 : List Loc), t.heap = H1 → s.vm.Alike t.vm → post r u → B u t → H.size ≤ H1.size → (∀ q : Nat, q < H.size → ¬ A1 q → H1[q]? = H[q]?) → va_S A0 H0 H1 locs1 → W p l e R s m args below meth c H1 locs1 (cells + mc) (slots + ms) Q (F0 m (pc + 3) ls (.long r :: rest))) : W p l e R s m args below meth c H locs cells slots Q (F0 m pc ls st0) := by
  intro T hT X
  rcases hr T hT X with ⟨v, st₀, t, T', L, h0, X', hL, e1, e2, ⟨⟨r, u, hv, hp, hb⟩, hF⟩, st⟩ | ⟨q, st₀, t, T', L, E, ce, h0, X', hL, e1, e2, ⟨u, hp, hb, hF⟩, hce, hcv, hcl, st⟩
  · cases hv
    obtain ⟨k1, k2, k3⟩ := vx_keep h0 e1 hS hA hf hL hF
    obtain ⟨t2, a1, b1⟩ := kk r u t T'.heap (locs ++ L) e1.symm (by rw [← e2]; exact X'.warmed.alike) hp hb k1 k2 k3 T' rfl X'
    exact ⟨t2, st t2 a1, b1⟩
  · obtain ⟨k1, k2, k3⟩ := vx_keep h0 e1 hS hAX hf hL hF
    obtain ⟨t2, a1, b1⟩ := kx E ce q u t T'.heap (locs ++ L) e1.symm (by rw [← e2]; exact X'.warmed.alike) hp hb k1 k2 k3 (by rw [e1]; exact hce) hcv hcl T' rfl X'
    exact ⟨t2, st.trans a1, b1⟩
theorem vx_callf {S SX : Type} {post : UInt32 → S → Prop} {px : SX → Prop} {B : S → State → Prop} {BX : String → SX → State → Prop} {AX : Nat → Prop} (hr : vx_Run p l e R s m args below meth c H locs cells slots mc ms (F0 m pc ls st0) rest (va_Qf post B A1 a) (vx_X px BX AX) free) (hS : va_S A0 H0 H locs) (hA : ∀ q, q < H.size → A1 q → A0 q) (hf : ∀ q, free q → A0 q) (hAX : ∀ q, q < H.size → AX q → A0 q)
    (kx : ∀ (E : String) (ce : Cell) (q9 : Addr) (u : SX) (t : State) (H1 : Heap) (locs1 : List Loc), t.heap = H1 → s.vm.Alike t.vm → px u → BX E u t → H.size ≤ H1.size → (∀ q : Nat, q < H.size → ¬ AX q → H1[q]? = H[q]?) → va_S A0 H0 H1 locs1 → H1[q9]? = some ce → ce.vm = .none → s.vm.findClass E = some ce.cls → vx_W p l e R s m args below meth c H1 locs1 (cells + mc) (slots + ms) Q (F0 m pc ls rest) q9)
    (kk : ∀ (r : UInt32) (u : S) (t : State) (H1 : Heap) (locs1 : List Loc), t.heap = H1 → s.vm.Alike t.vm → post r u → B u t → H.size ≤ H1.size → (∀ q : Nat, q < H.size → ¬ A1 q → H1[q]? = H[q]?) → va_S A0 H0 H1 locs1 → W p l e R s m args below meth c H1 locs1 (cells + mc) (slots + ms) Q (F0 m (pc + 3) ls (.float r :: rest))) : W p l e R s m args below meth c H locs cells slots Q (F0 m pc ls st0) := by
  intro T hT X
  rcases hr T hT X with ⟨v, st₀, t, T', L, h0, X', hL, e1, e2, ⟨⟨r, u, hv, hp, hb⟩, hF⟩, st⟩ | ⟨q, st₀, t, T', L, E, ce, h0, X', hL, e1, e2, ⟨u, hp, hb, hF⟩, hce, hcv, hcl, st⟩
  · cases hv
    obtain ⟨k1, k2, k3⟩ := vx_keep h0 e1 hS hA hf hL hF
    obtain ⟨t2, a1, b1⟩ := kk r u t T'.heap (locs ++ L) e1.symm (by rw [← e2]; exact X'.warmed.alike) hp hb k1 k2 k3 T' rfl X'
    exact ⟨t2, st t2 a1, b1⟩
  · obtain ⟨k1, k2, k3⟩ := vx_keep h0 e1 hS hAX hf hL hF
    obtain ⟨t2, a1, b1⟩ := kx E ce q u t T'.heap (locs ++ L) e1.symm (by rw [← e2]; exact X'.warmed.alike) hp hb k1 k2 k3 (by rw [e1]; exact hce) hcv hcl T' rfl X'
    exact ⟨t2, st.trans a1, b1⟩
theorem vx_calld {S SX : Type} {post : UInt64 → S → Prop} {px : SX → Prop} {B : S → State → Prop} {BX : String → SX → State → Prop} {AX : Nat → Prop} (hr : vx_Run p l e R s m args below meth c H locs cells slots mc ms (F0 m pc ls st0) rest (va_Qd post B A1 a) (vx_X px BX AX) free) (hS : va_S A0 H0 H locs) (hA : ∀ q, q < H.size → A1 q → A0 q) (hf : ∀ q, free q → A0 q) (hAX : ∀ q, q < H.size → AX q → A0 q)
    (kx : ∀ (E : String) (ce : Cell) (q9 : Addr) (u : SX) (t : State) (H1 : Heap) (locs1 : List Loc), t.heap = H1 → s.vm.Alike t.vm → px u → BX E u t → H.size ≤ H1.size → (∀ q : Nat, q < H.size → ¬ AX q → H1[q]? = H[q]?) → va_S A0 H0 H1 locs1 → H1[q9]? = some ce → ce.vm = .none → s.vm.findClass E = some ce.cls → vx_W p l e R s m args below meth c H1 locs1 (cells + mc) (slots + ms) Q (F0 m pc ls rest) q9)
    (kk : ∀ (r : UInt64) (u : S) (t : State) (H1 : Heap) (locs1 : List Loc), t.heap = H1 → s.vm.Alike t.vm → post r u → B u t → H.size ≤ H1.size → (∀ q : Nat, q < H.size → ¬ A1 q → H1[q]? = H[q]?) → va_S A0 H0 H1 locs1 → W p l e R s m args below meth c H1 locs1 (cells + mc) (slots + ms) Q (F0 m (pc + 3) ls (.double r :: rest))) : W p l e R s m args below meth c H locs cells slots Q (F0 m pc ls st0) := by
  intro T hT X
  rcases hr T hT X with ⟨v, st₀, t, T', L, h0, X', hL, e1, e2, ⟨⟨r, u, hv, hp, hb⟩, hF⟩, st⟩ | ⟨q, st₀, t, T', L, E, ce, h0, X', hL, e1, e2, ⟨u, hp, hb, hF⟩, hce, hcv, hcl, st⟩
  · cases hv
    obtain ⟨k1, k2, k3⟩ := vx_keep h0 e1 hS hA hf hL hF
    obtain ⟨t2, a1, b1⟩ := kk r u t T'.heap (locs ++ L) e1.symm (by rw [← e2]; exact X'.warmed.alike) hp hb k1 k2 k3 T' rfl X'
    exact ⟨t2, st t2 a1, b1⟩
  · obtain ⟨k1, k2, k3⟩ := vx_keep h0 e1 hS hAX hf hL hF
    obtain ⟨t2, a1, b1⟩ := kx E ce q u t T'.heap (locs ++ L) e1.symm (by rw [← e2]; exact X'.warmed.alike) hp hb k1 k2 k3 (by rw [e1]; exact hce) hcv hcl T' rfl X'
    exact ⟨t2, st.trans a1, b1⟩
theorem vx_callv {S SX : Type} {post : S → Prop} {px : SX → Prop} {B : S → State → Prop} {BX : String → SX → State → Prop} {AX : Nat → Prop} (hr : vx_Run p l e R s m args below meth c H locs cells slots mc ms (F0 m pc ls st0) rest (va_Qv post B A1 a) (vx_X px BX AX) free) (hS : va_S A0 H0 H locs) (hA : ∀ q, q < H.size → A1 q → A0 q) (hf : ∀ q, free q → A0 q) (hAX : ∀ q, q < H.size → AX q → A0 q)
    (kx : ∀ (E : String) (ce : Cell) (q9 : Addr) (u : SX) (t : State) (H1 : Heap) (locs1 : List Loc), t.heap = H1 → s.vm.Alike t.vm → px u → BX E u t → H.size ≤ H1.size → (∀ q : Nat, q < H.size → ¬ AX q → H1[q]? = H[q]?) → va_S A0 H0 H1 locs1 → H1[q9]? = some ce → ce.vm = .none → s.vm.findClass E = some ce.cls → vx_W p l e R s m args below meth c H1 locs1 (cells + mc) (slots + ms) Q (F0 m pc ls rest) q9)
    (kk : ∀ (u : S) (t : State) (H1 : Heap) (locs1 : List Loc), t.heap = H1 → s.vm.Alike t.vm → post u → B u t → H.size ≤ H1.size → (∀ q : Nat, q < H.size → ¬ A1 q → H1[q]? = H[q]?) → va_S A0 H0 H1 locs1 → W p l e R s m args below meth c H1 locs1 (cells + mc) (slots + ms) Q (F0 m (pc + 3) ls (rest))) : W p l e R s m args below meth c H locs cells slots Q (F0 m pc ls st0) := by
  intro T hT X
  rcases hr T hT X with ⟨v, st₀, t, T', L, h0, X', hL, e1, e2, ⟨⟨u, hv, hp, hb⟩, hF⟩, st⟩ | ⟨q, st₀, t, T', L, E, ce, h0, X', hL, e1, e2, ⟨u, hp, hb, hF⟩, hce, hcv, hcl, st⟩
  · cases hv
    obtain ⟨k1, k2, k3⟩ := vx_keep h0 e1 hS hA hf hL hF
    obtain ⟨t2, a1, b1⟩ := kk u t T'.heap (locs ++ L) e1.symm (by rw [← e2]; exact X'.warmed.alike) hp hb k1 k2 k3 T' rfl X'
    exact ⟨t2, st t2 a1, b1⟩
  · obtain ⟨k1, k2, k3⟩ := vx_keep h0 e1 hS hAX hf hL hF
    obtain ⟨t2, a1, b1⟩ := kx E ce q u t T'.heap (locs ++ L) e1.symm (by rw [← e2]; exact X'.warmed.alike) hp hb k1 k2 k3 (by rw [e1]; exact hce) hcv hcl T' rfl X'
    exact ⟨t2, st.trans a1, b1⟩
end Rows
section Ends
variable {p : Program} {l : Launch} {e : Env} {R : Room} {s : State} {m : MethodId} {args : Array Value} {below : List Frame} {meth : Method} {c : Code} {H : Heap} {locs : List Loc} {cells slots : Nat} {Q : State → Prop}
variable {mc ms : Nat} {free : Addr → Prop} {A0 A1 : Nat → Prop} {H0 : Heap} {a : Array Value} {ls : Array Slot} {st0 rest : List Value}
variable {Qc : Array Value → State → Outcome → State → Prop} {XC : String → State → State → Prop}
/-- what a body that may throw owes at its end -/
def vx_MQ (below : List Frame) (Qc : Array Value → State → Outcome → State → Prop) (XC : String → State → State → Prop) (a : Array Value) (s : State) (mc ms : Nat) (free : Addr → Prop) : State → Prop := fun t =>
  ∃ o, t.status = .running ∧ Ended t below o ∧ vx_Q Qc XC mc ms free a s o t
theorem vx_ret {g : JFrame} {mc ms : Nat} (k : W p l e R s m args below meth c H locs cells slots (MQ below Qc args s mc ms free) g) : W p l e R s m args below meth c H locs cells slots (vx_MQ below Qc XC args s mc ms free) g := by
  intro T hT X
  obtain ⟨t, a1, o, b1, b2, b3, b4⟩ := k T hT X
  exact ⟨t, a1, o, b1, b2, Or.inl ⟨b3, b4⟩⟩
/-- not caught here: it goes on to the caller -/
theorem vx_widen {g : JFrame} {q : Addr} {k n : Nat} (h1 : cells ≤ k) (h2 : slots ≤ n) (kk : vx_W p l e R s m args below meth c H locs k n Q g q) : vx_W p l e R s m args below meth c H locs cells slots Q g q := fun T hT X => kk T hT (stand_widen X h1 h2)
theorem vx_out {pc : Nat} {E : String} {ce : Cell} {q : Addr} {mc ms : Nat} (hout : ∀ x ∈ c.exceptionTable.toList, covers x pc = false) (hlocks : meth.locks = false) (hcell : H[q]? = some ce) (hv : ce.vm = .none) (hcl : s.vm.findClass E = some ce.cls)
    (hx : ∀ t : State, t.heap = H → s.vm.Alike t.vm → XC E s t) (hf : ∀ z ∈ locs, free z.base) (hc : cells ≤ mc) (hs : slots ≤ ms) :
    vx_W p l e R s m args below meth c H locs cells slots (vx_MQ below Qc XC args s mc ms free) (F0 m pc ls rest) q := by
  intro T hT X
  obtain ⟨st1, hrun, hend, hW, hsm⟩ := X.leaveThrown q (g := F0 m pc ls rest) rfl rfl rfl hout hlocks
  have hcell9 : (T.setFrames (.throwing q :: below)).heap[q]? = some ce := by
    show T.heap[q]? = some ce
    rw [hT]; exact hcell
  exact ⟨_, st1, .threw q, hrun, hend, Or.inr ⟨q, rfl, E, ce, locs, hx _ hT hW.alike, hcell9, hv, hcl, hW, hsm.mono hc hs, hf⟩⟩
theorem vx_frame {U : State} {k n : Nat} (h : s.sameButNew ({ U with vm := s.vm } : State) locs k n) : s.heap.size ≤ U.heap.size ∧ ∀ q : Nat, q < s.heap.size → (∀ z ∈ locs, z.base ≠ q) → U.heap[q]? = s.heap[q]? := by
  obtain ⟨-, h2, -, -, -, h6⟩ := h
  refine ⟨h2, fun q hq hz => ?_⟩
  obtain ⟨c9, e1, e2, e3, e4⟩ := h6 q _ (Array.getElem?_eq_getElem hq)
  have hs : c9.slots = (s.heap[q]).slots := Array.ext_getElem? fun i => e4 i fun hm => hz _ hm rfl
  have h9 : c9 = s.heap[q] := by
    rw [hs] at e2
    exact e2
  have e5 : U.heap[q]? = some c9 := e1
  rw [e5, h9, Array.getElem?_eq_getElem hq]
/-- the words of a throw but the four that speak of the heap -/
def vx_no (w : Cond) : Bool := decide (w ≠ .isRef (.static Bundle.tN "UNASSIGNED_STACK" Bundle.steD)) && decide (w ≠ .isRef (.static Bundle.tN "SUPPRESSED_SENTINEL" Bundle.listD)) && decide (w ≠ .laysStatic Bundle.tN "UNASSIGNED_STACK" Bundle.steD) && decide (w ≠ .laysStatic Bundle.tN "SUPPRESSED_SENTINEL" Bundle.listD)
def vx_at0 (own : String) (ic : Nat) (X : String) (names : List String) : List Cond := (Bundle.ownAtoms0 own ic X names).filter vx_no
def vx_atS (own : String) (ic : Nat) (X : String) (names : List String) : List Cond := (Bundle.ownAtoms own ic X names).filter vx_no
/-- a word that the tables alone decide, or a good one -/
def vx_ot (w : Cond) : Bool := w.onTables || goodWord w
theorem vx_ot_at {args a' : Array Value} {s U : State} {w : Cond} (hW : s.WarmedH U.vm) (hvm : s.vm = U.vm) (hg : vx_ot w = true) (h : w.before args s = true) : w.before a' U = true := by
  simp only [vx_ot, Bool.or_eq_true] at hg
  rcases hg with hg | hg
  · exact va_tabs hg hvm h
  · exact word_at hW (good_of_word hg) h
/-- a list's words: the good ones out of the method's own list, the others by premises of their own -/
theorem vx_hat {args : Array Value} {s : State} {L B : List Cond} (h1 : ∀ w ∈ L.filter goodWord, w.before args s = true) (h2 : ∀ w ∈ L.filter (fun w => !goodWord w), w ∈ B) (h3 : ∀ w ∈ B, w.before args s = true) : ∀ w ∈ L, w.before args s = true := by
  intro w hw
  by_cases g : goodWord w = true
  · exact h1 w (List.mem_filter.mpr ⟨hw, g⟩)
  · refine h3 w (h2 w (List.mem_filter.mpr ⟨hw, ?_⟩))
    show (!goodWord w) = true
    cases hgw : goodWord w
    · rfl
    · exact absurd hgw g
theorem vx_c {args : Array Value} {s : State} {w : Cond} {B : List Cond} (h : w.before args s = true) (t : ∀ w ∈ B, w.before args s = true) : ∀ w' ∈ w :: B, w'.before args s = true := fun w' h' => (List.mem_cons.mp h').elim (fun e => by rw [e]; exact h) (t w')
theorem vx_n {args : Array Value} {s : State} : ∀ w ∈ ([] : List Cond), w.before args s = true := fun _ h => nomatch h
theorem vx_own {args : Array Value} {s : State} {L : List Cond} (h1 : ∀ w ∈ L.filter vx_no, w.before args s = true)
    (hU : (Cond.isRef (.static Bundle.tN "UNASSIGNED_STACK" Bundle.steD)).before args s = true) (hN : (Cond.isRef (.static Bundle.tN "SUPPRESSED_SENTINEL" Bundle.listD)).before args s = true)
    (lU : (Cond.laysStatic Bundle.tN "UNASSIGNED_STACK" Bundle.steD).before args s = true) (lN : (Cond.laysStatic Bundle.tN "SUPPRESSED_SENTINEL" Bundle.listD).before args s = true) : ∀ w ∈ L, w.before args s = true := by
  intro w hw
  by_cases e1 : w = .isRef (.static Bundle.tN "UNASSIGNED_STACK" Bundle.steD)
  · rw [e1]; exact hU
  · by_cases e2 : w = .isRef (.static Bundle.tN "SUPPRESSED_SENTINEL" Bundle.listD)
    · rw [e2]; exact hN
    · by_cases e3 : w = .laysStatic Bundle.tN "UNASSIGNED_STACK" Bundle.steD
      · rw [e3]; exact lU
      · by_cases e4 : w = .laysStatic Bundle.tN "SUPPRESSED_SENTINEL" Bundle.listD
        · rw [e4]; exact lN
        · exact h1 w (List.mem_filter.mpr ⟨hw, by unfold vx_no; rw [decide_eq_true e1, decide_eq_true e2, decide_eq_true e3, decide_eq_true e4]; rfl⟩)
/-- where a static field lies, its class's statics cell in H -/
def vx_L (C n d : String) (A : Nat → Prop) (U : State) (H : Heap) : Prop := ∃ (c : ClassId) (k : Class) (i : Nat) (f : Field) (a : Nat) (cell : Cell), U.vm.findClass C = some c ∧ U.fieldFound? C n d = some (c, k, i, f) ∧ f.isStatic = true ∧ k.statics = some a ∧ H[a]? = some cell ∧ cell.vm.isStatics = true ∧ cell.cls = c ∧ f.slot < cell.slots.size ∧ k.staticTypes[f.slot]? = some f.type ∧ ¬ A a
theorem vx_L.moved {C n d : String} {A : Nat → Prop} {u U : State} {H : Heap} (hvm : u.vm.Alike U.vm) (h : vx_L C n d A u H) : vx_L C n d A U H := by
  obtain ⟨c, k, i, f, a, cell, h1, h2, h3, h4, h5, h6, h7, h8, h9, h10⟩ := h
  obtain ⟨k', hi', he⟩ := State.fieldFound?_setVm hvm h2
  exact ⟨c, k', i, f, a, cell, by rw [hvm.findClass]; exact h1, hi', h3, by rw [he]; exact h4, h5, h6, h7, h8, by rw [he]; exact h9, h10⟩
theorem vx_L.kept {C n d : String} {A : Nat → Prop} {U : State} {H H1 : Heap} (h : vx_L C n d A U H) (hq : ∀ a : Nat, a < H.size → ¬ A a → H1[a]? = H[a]?) : vx_L C n d A U H1 := by
  obtain ⟨c, k, i, f, a, cell, h1, h2, h3, h4, h5, h6, h7, h8, h9, h10⟩ := h
  exact ⟨c, k, i, f, a, cell, h1, h2, h3, h4, by rw [hq a (Array.getElem?_eq_some_iff.mp h5).1 h10]; exact h5, h6, h7, h8, h9, h10⟩
theorem vx_L.narrow {C n d : String} {A B : Nat → Prop} {U : State} {H : Heap} (h : vx_L C n d A U H) (hAB : ∀ q, B q → A q) : vx_L C n d B U H := by
  obtain ⟨c, k, i, f, a, cell, h1, h2, h3, h4, h5, h6, h7, h8, h9, h10⟩ := h
  exact ⟨c, k, i, f, a, cell, h1, h2, h3, h4, h5, h6, h7, h8, h9, fun z => h10 (hAB _ z)⟩
theorem vx_L.word {C n d : String} {A : Nat → Prop} {s : State} {args : Array Value} (h : vx_L C n d A s s.heap) : (Cond.laysStatic C n d).before args s = true := by
  obtain ⟨c, k, i, f, a, cell, h1, h2, h3, h4, h5, h6, h7, h8, h9, -⟩ := h
  show (Cond.laysStatic C n d).holds args s none s [] = true
  exact Cond.laysStatic_of h1 h2 h3 h4 h5 h6 h7 h8 h9
/-- .. and what it holds: null or some reference -/
def vx_Zq (C n d : String) (A : Nat → Prop) (U : State) (H : Heap) : Prop := va_Zq C n d A U H ∧ vx_L C n d A U H
theorem vx_Zq.moved {C n d : String} {A : Nat → Prop} {u U : State} {H : Heap} (hvm : u.vm.Alike U.vm) (h : vx_Zq C n d A u H) : vx_Zq C n d A U H := ⟨va_Zq.moved hvm h.1, vx_L.moved hvm h.2⟩
theorem vx_Zq.kept {C n d : String} {A : Nat → Prop} {U : State} {H H1 : Heap} (h : vx_Zq C n d A U H) (hq : ∀ a : Nat, a < H.size → ¬ A a → H1[a]? = H[a]?) : vx_Zq C n d A U H1 := ⟨va_Zq.kept h.1 hq, vx_L.kept h.2 hq⟩
theorem vx_Zq.narrow {C n d : String} {A B : Nat → Prop} {U : State} {H : Heap} (h : vx_Zq C n d A U H) (hAB : ∀ q, B q → A q) : vx_Zq C n d B U H := ⟨va_Zq.narrow h.1 hAB, vx_L.narrow h.2 hAB⟩
theorem vx_Zqof {args : Array Value} {s : State} {C n d : String} {A : Nat → Prop} (hl : (Cond.laysStatic C n d).before args s = true) (hini : (Cond.initialized C).before args s = true) (h : (Cond.isRef (.static C n d)).before args s = true) (hA : ∀ a : Nat, a < s.heap.size → ¬ A a) : vx_Zq C n d A s s.heap := by
  refine ⟨va_Zqof hl hini h hA, ?_⟩
  obtain ⟨c, k, i, f, a, cell, h1, h2, h3, h4, h5, h6, h7, h8, h9⟩ := Cond.laysStatic_spec hl
  exact ⟨c, k, i, f, a, cell, h1, h2, h3, h4, h5, h6, h7, h8, h9, hA a (Array.getElem?_eq_some_iff.mp h5).1⟩
theorem vx_isRef {C n d : String} {v : Value} {A : Nat → Prop} {s : State} {args : Array Value} (h : va_Z C n d v A s s.heap) (hv : v.isRef = true) : (Cond.isRef (.static C n d)).before args s = true := by
  obtain ⟨cf, kf, fi, f, a, cell, h1, h2, h3, h4, h5, h6, h7, -⟩ := h
  have he : (Term.static C n d).eval args s none [] s = some v := by
    simp [Term.eval, State.fieldNamed?, h1, h2, h4, h5, h6, h7]
  simp only [Cond.before, Cond.holds, Cond.value, he]
  cases v <;> simp_all [Value.isRef]
theorem vx_isRefq {C n d : String} {A : Nat → Prop} {s : State} {args : Array Value} (h : va_Zq C n d A s s.heap) : (Cond.isRef (.static C n d)).before args s = true := by
  rcases h with h | ⟨t, h⟩
  · exact vx_isRef h rfl
  · exact vx_isRef h rfl
/-- the same frame, seen from here: as if the method were called anew in this heap -/
theorem vx_rebase {T : State} (X : Stand p l e R s m args below meth c T locs cells slots) {R' : Room} (hf : R'.frames ≤ R.frames) (hl : R'.locals ≤ R.locals) (hc : cells + R'.cells ≤ R.cells) (hs : slots + R'.slots ≤ R.slots) :
    Stand p l e R' ((T.setVm s.vm).setFrames (.invoking m args :: below)) m args below meth c T [] 0 0 := by
  have htop : (T.setVm s.vm).topJava?.isSome := X.here.top
  have hF : ((T.setVm s.vm).setFrames (.invoking m args :: below)).frames = .invoking m args :: below := State.frames_setFrames _ (State.cur_lt_of_top htop)
  obtain ⟨g₀, hg0⟩ := Option.isSome_iff_exists.mp htop
  obtain ⟨r, hr⟩ := State.topJava?_eq_some.mp hg0
  have hl9 : e.platform.stackLimits (T.setVm s.vm).me = e.platform.stackLimits s.me := X.limits
  have hb9 : (T.setVm s.vm).me.stackBytes = s.me.stackBytes := X.bytes
  refine ⟨X.admits, X.cas, X.clock, hF, ?_, X.hears, X.method, X.code, X.here, X.tail, X.warmed, ?_, ?_, ?_⟩
  · have h := X.room
    have hU : ((T.setVm s.vm).setFrames (.invoking m args :: below)).localsInUse = s.localsInUse := by
      rw [State.localsInUse_invoking hF (meth := meth) (c := c) X.method X.code, State.localsInUse_invoking X.frames X.method X.code]
    simp only [State.hasRoom, Bool.and_eq_true, decide_eq_true_eq] at h ⊢
    obtain ⟨⟨⟨⟨h1, h2, h3, h4, h5, h6⟩, h7⟩, h8⟩, h9⟩ := h
    rw [X.frames, List.length_cons] at h2 h3
    have q1 := X.heapSize
    have q2 := X.used
    simp only [hF, hU, List.length_cons, State.stackLimits_setFrames, State.stackBytes_setFrames, hl9, hb9]
    refine ⟨⟨⟨⟨by omega, by omega, by omega, by omega, by omega, h6⟩, ?_⟩, ?_⟩, X.book⟩
    · show T.heap.size + R'.cells ≤ e.platform.maxCells
      omega
    · show T.slotsUsed + R'.slots ≤ e.platform.maxSlots
      omega
  · rw [State.stackLimits_setFrames]; rfl
  · rw [State.stackBytes_setFrames]; rfl
  · refine ⟨?_, Nat.le_refl _, Nat.le_refl _, ?_, ?_, fun a c9 h9 => ⟨c9, h9, rfl, rfl, fun _ _ => rfl⟩⟩
    · obtain ⟨t, ht, -⟩ := State.frames_cons hr
      show T.setVm s.vm = { ((T.setVm s.vm).setFrames (.invoking m args :: below)).setFrames (T.setVm s.vm).frames with heap := T.heap, slotsUsed := T.slotsUsed }
      rw [State.setFrames_setFrames, State.setFrames_self ht]
      rfl
    · show T.slotsUsed = T.slotsUsed + ((T.heap.toList.drop T.heap.size).map (·.slots.size)).sum
      rw [List.drop_eq_nil_of_le (Nat.le_of_eq Array.length_toList)]
      rfl
    · show ((T.heap.toList.drop T.heap.size).map (·.slots.size)).sum ≤ 0
      rw [List.drop_eq_nil_of_le (Nat.le_of_eq Array.length_toList)]
      exact Nat.le_refl _
/-- 'throw new E()': new; dup; invokespecial; athrow -/
theorem vx_throw0 {cc : ByteArray} {pc : Nat} (hexec : p.tables.exec = Jvm.exec) (hb : c.code = cc) (hl : l.stackTraces = false) {own cls : String} {names : List String} {ik ic mc ms : Nat} {A : Nat → Prop}
    (hown : s.vm.findClass own = some m.cls) (hcls : Bundle.fit cls = true) (hnames : ∀ n ∈ names, Bundle.fit n = true)
    (hk : (Cond.classLink own ik cls).before args s = true) (hini : (Cond.initialized cls).before args s = true) (hat : ∀ w ∈ vx_at0 own ic cls names, w.before args s = true)
    (hgood : ∀ w ∈ Cond.classLink own ik cls :: Cond.initialized cls :: vx_at0 own ic cls names, vx_ot w = true)
    (hU : vx_Zq Bundle.tN "UNASSIGNED_STACK" Bundle.steD A s s.heap) (hN : vx_Zq Bundle.tN "SUPPRESSED_SENTINEL" Bundle.listD A s s.heap) (hS : va_S A s.heap H locs) (hsize : ls.size = c.maxLocals)
    (d0 : decode cc pc = .ok (.new ik, 3)) (d3 : decode cc (pc + 3) = .ok (.dup, 1)) (d4 : decode cc (pc + 4) = .ok (.invokespecial ic, 3)) (d7 : decode cc (pc + 7) = .ok (.athrow, 1))
    (hout : ∀ x ∈ c.exceptionTable.toList, covers x (pc + 7) = false)
    (hRframes : names.length + 3 < R.frames) (hRlocals : (rest.map fun v => v.category).sum + (13 * (names.length + 1) + 42) ≤ R.locals) (hRcells : cells + 1 ≤ R.cells) (hRslots : slots + 6 ≤ R.slots) (hlocks : meth.locks = false)
    (hx : ∀ t : State, s.vm.Alike t.vm → H.size ≤ t.heap.size → (∀ q : Nat, q < H.size → t.heap[q]? = H[q]?) → XC cls s t)
    (hf : ∀ z ∈ locs, free z.base) (hc : cells + 1 ≤ mc) (hs : slots + 6 ≤ ms) :
    W p l e R s m args below meth c H locs cells slots (vx_MQ below Qc XC args s mc ms free) (F0 m pc ls rest) := by
  intro T hT X
  have htr : e.platform.stackTraces = false := (show e.platform.stackTraces = l.stackTraces by rw [X.admits.platform]).trans hl
  have Y := vx_rebase X (R' := { frames := R.frames, locals := R.locals, cells := 1, slots := 6 }) (Nat.le_refl _) (Nat.le_refl _) hRcells hRslots
  obtain ⟨s', hA⟩ : ∃ z, z = (T.setVm s.vm).setFrames (.invoking m args :: below) := ⟨_, rfl⟩
  rw [← hA] at Y
  have hvm : s'.vm = s.vm := by rw [hA]; rfl
  have hhp : s'.heap = H := by rw [hA]; exact hT
  have hW0 : s.WarmedH s'.vm := by rw [hvm]; exact State.WarmedH.refl s
  have hat' : ∀ w ∈ vx_at0 own ic cls names, w.before args s' = true := fun w hw => vx_ot_at hW0 hvm.symm (hgood w (List.mem_cons_of_mem _ (List.mem_cons_of_mem _ hw))) (hat w hw)
  have hk' : (Cond.classLink own ik cls).before args s' = true := vx_ot_at hW0 hvm.symm (hgood _ List.mem_cons_self) hk
  have hini' : (Cond.initialized cls).before args s' = true := vx_ot_at hW0 hvm.symm (hgood _ (List.mem_cons_of_mem _ List.mem_cons_self)) hini
  have hU' : vx_Zq Bundle.tN "UNASSIGNED_STACK" Bundle.steD A s' s'.heap := by rw [hhp]; exact vx_Zq.moved hW0.alike (hU.kept hS.2.1)
  have hN' : vx_Zq Bundle.tN "SUPPRESSED_SENTINEL" Bundle.listD A s' s'.heap := by rw [hhp]; exact vx_Zq.moved hW0.alike (hN.kept hS.2.1)
  have h : ∀ w ∈ Bundle.ownAtoms0 own ic cls names, w.before args s' = true := vx_own hat' (vx_isRefq hU'.1) (vx_isRefq hN'.1) hU'.2.word hN'.2.word
  have hown' : s'.vm.findClass own = some m.cls := by rw [hvm]; exact hown
  have hins : (Cond.instantiable cls 6).before args s' = true := h _ (by simp [Bundle.ownAtoms0])
  obtain ⟨vm₁, cX, kX, hfX, hkX, -, -, X₁, st1⟩ := Y.newCold hexec (own := own) (C := cls) (index := ik) (n := 6) hown' hk' hins hini'
    (g := F0 m pc ls rest) rfl (by rw [hb]; exact d0) (Nat.le_refl _) (Nat.le_refl _)
  generalize hT1 : (T.setVm vm₁).pushCell { cls := cX, slots := kX.instanceTypes.map defaultValue, vm := .none } = T1 at X₁ st1
  have hcat : (Value.ref T.heap.size).category = 1 := rfl
  have hcellA : T1.heap[T.heap.size]? = some (freshCell cX kX) := by rw [← hT1]; exact State.heap_pushCell_size _ _
  have d3' : decode c.code (pc + 3) = .ok (.dup, 1) := by rw [hb]; exact d3
  obtain ⟨U, hsteps, hrun, hend, hW, hsame, ce, hce, hO⟩ := X₁.ctorThrow0 hexec htr (own := own) (cls := cls) (names := names) (ic := ic) hown' hcls hnames h (fun x hx => nomatch hx) hfX hkX hcellA (by rw [hhp, hT]; exact Nat.le_refl _)
    (g := { method := m, pc := pc + 4, locals := ls, stack := .ref T.heap.size :: .ref T.heap.size :: rest, locked := none }) rfl hsize rfl rfl (rest := rest) rfl
    (by rw [hb]; exact d4) (by rw [hb]; exact d7) hout hRframes (by simp only [List.map_cons, List.sum_cons, hcat]; omega) hlocks
  obtain ⟨f1, f2⟩ := vx_frame hsame
  rw [hhp] at f1 f2
  have hWs : s.WarmedH U.vm := State.WarmedH.trans hW0 hW
  have hcl : s.vm.findClass cls = some ce.cls := by
    have h9 := hO.cls
    rw [hvm] at h9
    exact h9
  have hall : s.sameButNew ({ U with vm := s.vm } : State) locs mc ms := by
    subst hA
    obtain ⟨e1, e2⟩ := hsame
    rw [State.setFrames_setFrames] at e1
    have h2 : (T.setVm s.vm).sameButNew ({ U with vm := s.vm } : State) [] (0 + 1) (0 + 6) := ⟨e1, e2⟩
    have h3 := X.same.trans h2
    rw [List.append_nil] at h3
    exact h3.mono hc hs
  refine ⟨U, ?_, .threw T.heap.size, hrun, hend, Or.inr ⟨T.heap.size, rfl, cls, ce, locs, hx U hWs.alike f1 (fun q hq => f2 q hq (fun z hz => nomatch hz)), hce, hO.vm, hcl, hWs, hall, hf⟩⟩
  refine st1 _ ?_
  show Steps p.tables e below (T1.setTop { method := m, pc := pc + 3, locals := ls, stack := .ref T.heap.size :: rest, locked := none }) _
  jvm_step X₁.here [X₁.here.top, hexec, d3', Value.category]
  exact hsteps
/-- 'throw new E("text")': new; dup; ldc; invokespecial; athrow -/
theorem vx_throwS {cc : ByteArray} {pc : Nat} (hexec : p.tables.exec = Jvm.exec) (hb : c.code = cc) (hl : l.stackTraces = false) {own cls text : String} {names : List String} {ik is ic mc ms sa : Nat} {A : Nat → Prop}
    (hown : s.vm.findClass own = some m.cls) (hcls : Bundle.fit cls = true) (hnames : ∀ n ∈ names, Bundle.fit n = true)
    (hk : (Cond.classLink own ik cls).before args s = true) (hini : (Cond.initialized cls).before args s = true) (hstr : vk_R own is text sa s) (hat : ∀ w ∈ vx_atS own ic cls names, w.before args s = true)
    (hgood : ∀ w ∈ Cond.classLink own ik cls :: Cond.initialized cls :: vx_atS own ic cls names, vx_ot w = true)
    (hU : vx_Zq Bundle.tN "UNASSIGNED_STACK" Bundle.steD A s s.heap) (hN : vx_Zq Bundle.tN "SUPPRESSED_SENTINEL" Bundle.listD A s s.heap) (hS : va_S A s.heap H locs) (hsize : ls.size = c.maxLocals)
    (d0 : decode cc pc = .ok (.new ik, 3)) (d3 : decode cc (pc + 3) = .ok (.dup, 1)) (d4 : decode cc (pc + 4) = .ok (.ldc is, 2)) (d6 : decode cc (pc + 6) = .ok (.invokespecial ic, 3)) (d9 : decode cc (pc + 9) = .ok (.athrow, 1))
    (hout : ∀ x ∈ c.exceptionTable.toList, covers x (pc + 9) = false)
    (hRframes : names.length + 3 < R.frames) (hRlocals : (rest.map fun v => v.category).sum + (13 * (names.length + 1) + 43) ≤ R.locals) (hRcells : cells + 1 ≤ R.cells) (hRslots : slots + 6 ≤ R.slots) (hlocks : meth.locks = false)
    (hx : ∀ t : State, s.vm.Alike t.vm → H.size ≤ t.heap.size → (∀ q : Nat, q < H.size → t.heap[q]? = H[q]?) → XC cls s t)
    (hf : ∀ z ∈ locs, free z.base) (hc : cells + 1 ≤ mc) (hs : slots + 6 ≤ ms) :
    W p l e R s m args below meth c H locs cells slots (vx_MQ below Qc XC args s mc ms free) (F0 m pc ls rest) := by
  intro T hT X
  have htr : e.platform.stackTraces = false := (show e.platform.stackTraces = l.stackTraces by rw [X.admits.platform]).trans hl
  have Y := vx_rebase X (R' := { frames := R.frames, locals := R.locals, cells := 1, slots := 6 }) (Nat.le_refl _) (Nat.le_refl _) hRcells hRslots
  obtain ⟨s', hA⟩ : ∃ z, z = (T.setVm s.vm).setFrames (.invoking m args :: below) := ⟨_, rfl⟩
  rw [← hA] at Y
  have hvm : s'.vm = s.vm := by rw [hA]; rfl
  have hhp : s'.heap = H := by rw [hA]; exact hT
  have hW0 : s.WarmedH s'.vm := by rw [hvm]; exact State.WarmedH.refl s
  have hat' : ∀ w ∈ vx_atS own ic cls names, w.before args s' = true := fun w hw => vx_ot_at hW0 hvm.symm (hgood w (List.mem_cons_of_mem _ (List.mem_cons_of_mem _ hw))) (hat w hw)
  have hk' : (Cond.classLink own ik cls).before args s' = true := vx_ot_at hW0 hvm.symm (hgood _ List.mem_cons_self) hk
  have hini' : (Cond.initialized cls).before args s' = true := vx_ot_at hW0 hvm.symm (hgood _ (List.mem_cons_of_mem _ List.mem_cons_self)) hini
  have hU' : vx_Zq Bundle.tN "UNASSIGNED_STACK" Bundle.steD A s' s'.heap := by rw [hhp]; exact vx_Zq.moved hW0.alike (hU.kept hS.2.1)
  have hN' : vx_Zq Bundle.tN "SUPPRESSED_SENTINEL" Bundle.listD A s' s'.heap := by rw [hhp]; exact vx_Zq.moved hW0.alike (hN.kept hS.2.1)
  have h : ∀ w ∈ Bundle.ownAtoms own ic cls names, w.before args s' = true := vx_own hat' (vx_isRefq hU'.1) (vx_isRefq hN'.1) hU'.2.word hN'.2.word
  have hown' : s'.vm.findClass own = some m.cls := by rw [hvm]; exact hown
  have hins : (Cond.instantiable cls 6).before args s' = true := h _ (by simp [Bundle.ownAtoms])
  obtain ⟨vm₁, cX, kX, hfX, hkX, -, -, X₁, st1⟩ := Y.newCold hexec (own := own) (C := cls) (index := ik) (n := 6) hown' hk' hins hini'
    (g := F0 m pc ls rest) rfl (by rw [hb]; exact d0) (Nat.le_refl _) (Nat.le_refl _)
  generalize hT1 : (T.setVm vm₁).pushCell { cls := cX, slots := kX.instanceTypes.map defaultValue, vm := .none } = T1 at X₁ st1
  have hcat : (Value.ref T.heap.size).category = 1 := rfl
  have hcellA : T1.heap[T.heap.size]? = some (freshCell cX kX) := by rw [← hT1]; exact State.heap_pushCell_size _ _
  have d3' : decode c.code (pc + 3) = .ok (.dup, 1) := by rw [hb]; exact d3
  have d4' : decode c.code (pc + 4) = .ok (.ldc is, 2) := by rw [hb]; exact d4
  have hstr' : vk_R own is text sa s' := vk_R.warm hW0 hstr
  obtain ⟨U, hsteps, hrun, hend, hW, hsame, ce, hce, hO⟩ := X₁.ctorThrowS hexec htr (own := own) (cls := cls) (names := names) (ic := ic) hown' hcls hnames h (fun x hx => nomatch hx) hfX hkX hcellA (by rw [hhp, hT]; exact Nat.le_refl _) (msg := .ref sa) rfl
    (g := { method := m, pc := pc + 6, locals := ls, stack := .ref sa :: .ref T.heap.size :: .ref T.heap.size :: rest, locked := none }) rfl hsize rfl rfl (rest := rest) rfl
    (by rw [hb]; exact d6) (by rw [hb]; exact d9) hout hRframes (by simp only [List.map_cons, List.sum_cons, hcat]; omega) hlocks
  obtain ⟨f1, f2⟩ := vx_frame hsame
  rw [hhp] at f1 f2
  have hWs : s.WarmedH U.vm := State.WarmedH.trans hW0 hW
  have hcl : s.vm.findClass cls = some ce.cls := by
    have h9 := hO.cls
    rw [hvm] at h9
    exact h9
  have hall : s.sameButNew ({ U with vm := s.vm } : State) locs mc ms := by
    subst hA
    obtain ⟨e1, e2⟩ := hsame
    rw [State.setFrames_setFrames] at e1
    have h2 : (T.setVm s.vm).sameButNew ({ U with vm := s.vm } : State) [] (0 + 1) (0 + 6) := ⟨e1, e2⟩
    have h3 := X.same.trans h2
    rw [List.append_nil] at h3
    exact h3.mono hc hs
  refine ⟨U, ?_, .threw T.heap.size, hrun, hend, Or.inr ⟨T.heap.size, rfl, cls, ce, locs, hx U hWs.alike f1 (fun q hq => f2 q hq (fun z hz => nomatch hz)), hce, hO.vm, hcl, hWs, hall, hf⟩⟩
  refine st1 _ ?_
  show Steps p.tables e below (T1.setTop { method := m, pc := pc + 3, locals := ls, stack := .ref T.heap.size :: rest, locked := none }) _
  jvm_step X₁.here [X₁.here.top, hexec, d3', Value.category]
  exact X₁.ldcString hexec (own := own) (text := text) (index := is) (a := sa) hown' hstr'.1 hstr'.2
    (g := { method := m, pc := pc + 4, locals := ls, stack := .ref T.heap.size :: .ref T.heap.size :: rest, locked := none }) rfl d4' _ hsteps
/-- 'throw new E("text")', the text by a wide index -/
theorem vx_throwSW {cc : ByteArray} {pc : Nat} (hexec : p.tables.exec = Jvm.exec) (hb : c.code = cc) (hl : l.stackTraces = false) {own cls text : String} {names : List String} {ik is ic mc ms sa : Nat} {A : Nat → Prop}
    (hown : s.vm.findClass own = some m.cls) (hcls : Bundle.fit cls = true) (hnames : ∀ n ∈ names, Bundle.fit n = true)
    (hk : (Cond.classLink own ik cls).before args s = true) (hini : (Cond.initialized cls).before args s = true) (hstr : vk_R own is text sa s) (hat : ∀ w ∈ vx_atS own ic cls names, w.before args s = true)
    (hgood : ∀ w ∈ Cond.classLink own ik cls :: Cond.initialized cls :: vx_atS own ic cls names, vx_ot w = true)
    (hU : vx_Zq Bundle.tN "UNASSIGNED_STACK" Bundle.steD A s s.heap) (hN : vx_Zq Bundle.tN "SUPPRESSED_SENTINEL" Bundle.listD A s s.heap) (hS : va_S A s.heap H locs) (hsize : ls.size = c.maxLocals)
    (d0 : decode cc pc = .ok (.new ik, 3)) (d3 : decode cc (pc + 3) = .ok (.dup, 1)) (d4 : decode cc (pc + 4) = .ok (.ldc_w is, 3)) (d7 : decode cc (pc + 7) = .ok (.invokespecial ic, 3)) (d10 : decode cc (pc + 10) = .ok (.athrow, 1))
    (hout : ∀ x ∈ c.exceptionTable.toList, covers x (pc + 10) = false)
    (hRframes : names.length + 3 < R.frames) (hRlocals : (rest.map fun v => v.category).sum + (13 * (names.length + 1) + 43) ≤ R.locals) (hRcells : cells + 1 ≤ R.cells) (hRslots : slots + 6 ≤ R.slots) (hlocks : meth.locks = false)
    (hx : ∀ t : State, s.vm.Alike t.vm → H.size ≤ t.heap.size → (∀ q : Nat, q < H.size → t.heap[q]? = H[q]?) → XC cls s t)
    (hf : ∀ z ∈ locs, free z.base) (hc : cells + 1 ≤ mc) (hs : slots + 6 ≤ ms) :
    W p l e R s m args below meth c H locs cells slots (vx_MQ below Qc XC args s mc ms free) (F0 m pc ls rest) := by
  intro T hT X
  have htr : e.platform.stackTraces = false := (show e.platform.stackTraces = l.stackTraces by rw [X.admits.platform]).trans hl
  have Y := vx_rebase X (R' := { frames := R.frames, locals := R.locals, cells := 1, slots := 6 }) (Nat.le_refl _) (Nat.le_refl _) hRcells hRslots
  obtain ⟨s', hA⟩ : ∃ z, z = (T.setVm s.vm).setFrames (.invoking m args :: below) := ⟨_, rfl⟩
  rw [← hA] at Y
  have hvm : s'.vm = s.vm := by rw [hA]; rfl
  have hhp : s'.heap = H := by rw [hA]; exact hT
  have hW0 : s.WarmedH s'.vm := by rw [hvm]; exact State.WarmedH.refl s
  have hat' : ∀ w ∈ vx_atS own ic cls names, w.before args s' = true := fun w hw => vx_ot_at hW0 hvm.symm (hgood w (List.mem_cons_of_mem _ (List.mem_cons_of_mem _ hw))) (hat w hw)
  have hk' : (Cond.classLink own ik cls).before args s' = true := vx_ot_at hW0 hvm.symm (hgood _ List.mem_cons_self) hk
  have hini' : (Cond.initialized cls).before args s' = true := vx_ot_at hW0 hvm.symm (hgood _ (List.mem_cons_of_mem _ List.mem_cons_self)) hini
  have hU' : vx_Zq Bundle.tN "UNASSIGNED_STACK" Bundle.steD A s' s'.heap := by rw [hhp]; exact vx_Zq.moved hW0.alike (hU.kept hS.2.1)
  have hN' : vx_Zq Bundle.tN "SUPPRESSED_SENTINEL" Bundle.listD A s' s'.heap := by rw [hhp]; exact vx_Zq.moved hW0.alike (hN.kept hS.2.1)
  have h : ∀ w ∈ Bundle.ownAtoms own ic cls names, w.before args s' = true := vx_own hat' (vx_isRefq hU'.1) (vx_isRefq hN'.1) hU'.2.word hN'.2.word
  have hown' : s'.vm.findClass own = some m.cls := by rw [hvm]; exact hown
  have hins : (Cond.instantiable cls 6).before args s' = true := h _ (by simp [Bundle.ownAtoms])
  obtain ⟨vm₁, cX, kX, hfX, hkX, -, -, X₁, st1⟩ := Y.newCold hexec (own := own) (C := cls) (index := ik) (n := 6) hown' hk' hins hini'
    (g := F0 m pc ls rest) rfl (by rw [hb]; exact d0) (Nat.le_refl _) (Nat.le_refl _)
  generalize hT1 : (T.setVm vm₁).pushCell { cls := cX, slots := kX.instanceTypes.map defaultValue, vm := .none } = T1 at X₁ st1
  have hcat : (Value.ref T.heap.size).category = 1 := rfl
  have hcellA : T1.heap[T.heap.size]? = some (freshCell cX kX) := by rw [← hT1]; exact State.heap_pushCell_size _ _
  have d3' : decode c.code (pc + 3) = .ok (.dup, 1) := by rw [hb]; exact d3
  have d4' : decode c.code (pc + 4) = .ok (.ldc_w is, 3) := by rw [hb]; exact d4
  have hstr' : vk_R own is text sa s' := vk_R.warm hW0 hstr
  obtain ⟨U, hsteps, hrun, hend, hW, hsame, ce, hce, hO⟩ := X₁.ctorThrowS hexec htr (own := own) (cls := cls) (names := names) (ic := ic) hown' hcls hnames h (fun x hx => nomatch hx) hfX hkX hcellA (by rw [hhp, hT]; exact Nat.le_refl _) (msg := .ref sa) rfl
    (g := { method := m, pc := pc + 7, locals := ls, stack := .ref sa :: .ref T.heap.size :: .ref T.heap.size :: rest, locked := none }) rfl hsize rfl rfl (rest := rest) rfl
    (by rw [hb]; exact d7) (by rw [hb]; exact d10) hout hRframes (by simp only [List.map_cons, List.sum_cons, hcat]; omega) hlocks
  obtain ⟨f1, f2⟩ := vx_frame hsame
  rw [hhp] at f1 f2
  have hWs : s.WarmedH U.vm := State.WarmedH.trans hW0 hW
  have hcl : s.vm.findClass cls = some ce.cls := by
    have h9 := hO.cls
    rw [hvm] at h9
    exact h9
  have hall : s.sameButNew ({ U with vm := s.vm } : State) locs mc ms := by
    subst hA
    obtain ⟨e1, e2⟩ := hsame
    rw [State.setFrames_setFrames] at e1
    have h2 : (T.setVm s.vm).sameButNew ({ U with vm := s.vm } : State) [] (0 + 1) (0 + 6) := ⟨e1, e2⟩
    have h3 := X.same.trans h2
    rw [List.append_nil] at h3
    exact h3.mono hc hs
  refine ⟨U, ?_, .threw T.heap.size, hrun, hend, Or.inr ⟨T.heap.size, rfl, cls, ce, locs, hx U hWs.alike f1 (fun q hq => f2 q hq (fun z hz => nomatch hz)), hce, hO.vm, hcl, hWs, hall, hf⟩⟩
  refine st1 _ ?_
  show Steps p.tables e below (T1.setTop { method := m, pc := pc + 3, locals := ls, stack := .ref T.heap.size :: rest, locked := none }) _
  jvm_step X₁.here [X₁.here.top, hexec, d3', Value.category]
  exact X₁.ldcStringW hexec (own := own) (text := text) (index := is) (a := sa) hown' hstr'.1 hstr'.2
    (g := { method := m, pc := pc + 4, locals := ls, stack := .ref T.heap.size :: .ref T.heap.size :: rest, locked := none }) rfl d4' _ hsteps
end Ends
section Bodies
variable {l : Launch}
theorem vx_ofW {y : MethodName} {ws ws' : List Cond} {rm : Room} {Pc : Array Value → State → Prop} {Qc : Array Value → State → Outcome → State → Prop} {XC : String → State → State → Prop} {mc ms : Nat} {free : Addr → Prop} {cc : ByteArray} {maxL : Nat} {ret : Option FieldType}
    (hy : plainName y.cls = true) (hw : ws = Cond.code y cc maxL ret :: ws')
    (body : ∀ p e s m args below meth c s₁, BodyLoose p l y (headSpec ws rm) cc maxL ret e s m args below meth c s₁ → c.maxLocals = maxL → (∀ x ∈ c.exceptionTable.toList, False) → Pc args s →
      W p l e (headSpec ws rm).room s m args below meth c s.heap [] 0 0 (vx_MQ below Qc XC args s mc ms free) (entryFrame m args maxL)) : vx_Met l y ws rm Pc Qc XC mc ms free := by
  refine MetFree.of_bodyS (code := cc) (maxLocals := maxL) (ret := ret) hy ?_ ?_
  · intro args s m h hn
    obtain ⟨meth, c, h1, h2, h3, h4, h5, h6, -, -⟩ := Cond.code_spec hn (atoms_spec (ws := ws) h _ (by rw [hw]; exact List.mem_cons_self))
    exact ⟨meth, c, h1, h2, h3, h4, h5, h6⟩
  · intro p e s m args below meth c s₁ B hml hP _
    have hh0 : s₁.heap = s.heap := by rw [B.state]; rfl
    have ht : ∀ x ∈ c.exceptionTable.toList, False := by
      obtain ⟨meth9, c9, h1, h2, -, -, -, -, h7, -⟩ := Cond.code_spec B.named (atoms_spec (ws := ws) B.pre _ (by rw [hw]; exact List.mem_cons_self))
      cases Option.some.inj (h1.symm.trans B.method)
      cases Option.some.inj (h2.symm.trans (Stand.of_body B).code)
      intro x hx
      rw [Array.isEmpty_iff.mp h7] at hx
      cases hx
    obtain ⟨t, a1, o, b1, b2, b3⟩ := body p e s m args below meth c s₁ B hml ht hP s₁ hh0 (Stand.of_body B)
    exact ⟨t, o, a1, b1, b2, b3⟩
/-- the table of a body with handlers -/
theorem vx_table {p : Program} {x y : MethodName} {S : Spec} {cc bytes : ByteArray} {maxL maxL' : Nat} {ret ret' : Option FieldType} {e : Env} {s s₁ : State} {m : MethodId} {args : Array Value} {below : List Frame} {meth : Method} {c : Code} {hh : List (Nat × Nat × Nat × Nat)}
    (B : BodyLoose p l y S cc maxL ret e s m args below meth c s₁) (h : (Cond.codeWith y bytes maxL' ret' hh).before args s = true) : c.exceptionTable.toList = tableOf hh := by
  obtain ⟨m9, meth9, c9, hn9, h1, h2, -, -, h6, -⟩ := Cond.codeWith_spec h
  cases Option.some.inj (hn9.symm.trans B.named)
  cases Option.some.inj (h1.symm.trans B.method)
  cases Option.some.inj (h2.symm.trans (Stand.of_body B).code)
  rw [← h6, table_eq]
end Bodies
end VXA
/-! ===== END ===== -/
/-! ===== BEGIN a static call of a method with an exception table ===== -/
section VXS
variable {p : Program} {l : Launch} {e : Env} {R : Room} {s : State} {m : MethodId} {args : Array Value} {below : List Frame} {meth : Method} {c : Code} {T : State} {H : Heap} {locs : List Loc} {cells slots : Nat}
abbrev vx_CSW (R : Room) (s : State) (args : Array Value) (own : String) (index : Nat) (y : MethodName) (bytes : ByteArray) (maxL : Nat) (ret : Option FieldType) (hh : List (Nat × Nat × Nat × Nat)) (ws : List Cond) (rm : Room) (mc ms n : Nat) : Prop :=
  (rm.cells = mc ∧ rm.slots = ms ∧ rm.frames + 1 ≤ R.frames ∧ 8 + (maxL + 11) + rm.locals ≤ R.locals ∧ (∀ w ∈ ws, ∀ (a' : Array Value) (U : State), s.WarmedH U.vm → w.before a' U = true) ∧ Cond.codeWith y bytes maxL ret hh ∈ ws) ∧
  (Cond.codeWith y bytes maxL ret hh).before args s = true ∧ (Cond.initialized y.cls).before args s = true ∧ (y.cls ≠ "java/lang/invoke/MethodHandle" ∧ y.cls ≠ "java/lang/invoke/VarHandle") ∧
  (∀ sig, parseMethodDescriptor y.desc = some sig → n = sig.parameters.length) ∧ (Cond.methodLink own index y).before args s = true ∧ (Cond.static y).before args s = true
theorem vx_cwSW {own : String} {index maxL mc ms : Nat} {y : MethodName} {bytes : ByteArray} {ret : Option FieldType} {hh : List (Nat × Nat × Nat × Nat)} {Ts ws ws' : List Cond} {rm : Room} (n : Nat) (ht : ∀ w ∈ Ts, w.before args s = true) (hT : GoodIn Ts (va_wsS own index y ws)) (hw : ws = Cond.codeWith y bytes maxL ret hh :: ws') (hrc : rm.cells = mc) (hrs : rm.slots = ms)
    (hd : y.cls ≠ "java/lang/invoke/MethodHandle" ∧ y.cls ≠ "java/lang/invoke/VarHandle" ∧ (parseMethodDescriptor y.desc).map (fun d => d.parameters.length) = some n) (hR : rm.frames + 1 ≤ R.frames ∧ 8 + (maxL + 11) + rm.locals ≤ R.locals) :
    vx_CSW R s args own index y bytes maxL ret hh ws rm mc ms n := by
  have ok : ∀ w ∈ va_wsS own index y ws, w.before args s = true := fun w h => ht w (hT w h).1
  have hG : GoodIn Ts ws := fun w h => hT w (by unfold va_wsS; exact List.mem_append_right _ h)
  have hc : Cond.codeWith y bytes maxL ret hh ∈ ws := by rw [hw]; exact List.mem_cons_self
  refine ⟨⟨hrc, hrs, hR.1, hR.2, pay_in ht hG, hc⟩, ht _ (hG _ hc).1, ok _ (by simp [va_wsS]), ⟨hd.1, hd.2.1⟩, fun sig h => ?_, ok _ (by simp [va_wsS]), ok _ (by simp [va_wsS])⟩
  have h2 := hd.2.2
  rw [h] at h2
  exact (Option.some.inj h2).symm
theorem vx_callSW (X : Stand p l e R s m args below meth c T locs cells slots) (hexec : p.tables.exec = Jvm.exec) {own : String} {index : Nat} {y : MethodName} {bytes : ByteArray} {maxL : Nat} {ret : Option FieldType} {hh : List (Nat × Nat × Nat × Nat)}
    (hown : s.vm.findClass own = some m.cls) (hlink : (Cond.methodLink own index y).before args s = true) (hstat : (Cond.static y).before args s = true) (hinit : (Cond.initialized y.cls).before args s = true)
    (hcode : (Cond.codeWith y bytes maxL ret hh).before args s = true) (hy : y.cls ≠ "java/lang/invoke/MethodHandle" ∧ y.cls ≠ "java/lang/invoke/VarHandle")
    {W9 : Nat} {Pre : Pt → Array Value → Prop} {Post : Pt → Array Value → Option Value → Pt → Prop} (hK : Back l R p e below s args y 3 W9 Pre Post)
    {g : JFrame} (hg : g.method = m) (hsize : g.locals.size = c.maxLocals) {argsL rest : List Value} (hlen : ∀ sig, parseMethodDescriptor y.desc = some sig → argsL.length = sig.parameters.length)
    (hstack : g.stack = argsL.reverse ++ rest) (hW : 2 * g.monitorRoom + (rest.map fun v => v.category).sum ≤ W9) (hdg : decode c.code g.pc = .ok (.invokestatic index, 3))
    (hpre : ∀ vm₁, s.WarmedH vm₁ → Pre ⟨T.setVm vm₁, locs, cells, slots⟩ argsL.toArray) :
    ∃ (v : Option Value) (vm₁ : Vm) (B : Pt), s.WarmedH vm₁ ∧ Stand p l e R s m args below meth c B.U B.locs B.cells B.slots ∧ Post ⟨T.setVm vm₁, locs, cells, slots⟩ argsL.toArray v B ∧
      ∀ target, Steps p.tables e below (B.U.setTop { g with pc := g.pc + 3, stack := v.toList ++ rest }) target → Steps p.tables e below (T.setTop g) target := by
  obtain ⟨mk, methM, cM, hnamed, hmethM, -, -, -, -, -, -, hsigM⟩ := Cond.codeWith_spec hcode
  have hstatic : methM.isStatic = true := Cond.static_spec hnamed hmethM hstat
  obtain ⟨kP, hkP, -⟩ := className_of_methodNamed hnamed
  have hinitP : kP.init = .initialized := Cond.initialized_spec (findClass_of_methodNamed hnamed) hkP hinit
  obtain ⟨vm₁, X₁, hstep₁⟩ := X.invokestatic hexec hown hlink hnamed hmethM hstatic hkP hinitP hy (g := g) hg (argsL := argsL) (rest := rest) (hlen _ hsigM) hstack hdg
  obtain ⟨v, B, X', hpost, hsteps⟩ := hK m meth c ⟨T.setVm vm₁, locs, cells, slots⟩ { g with stack := rest } (.invokestatic index) mk argsL.toArray X₁ hg hsize hdg hW (X₁.named hnamed) (hpre vm₁ X₁.warmed)
  exact ⟨v, vm₁, B, X₁.warmed, X', hpost, fun target h => hstep₁ _ fun acts => by rw [doInvoke_state]; exact hsteps.trans h⟩
theorem vx_runSW {y : MethodName} {bytes cc : ByteArray} {maxL nL mc ms n index : Nat} {ret : Option FieldType} {hh : List (Nat × Nat × Nat × Nat)} {ws : List Cond} {rm : Room} {Pc : Array Value → State → Prop} {Qc : Array Value → State → Outcome → State → Prop} {free : Addr → Prop} {Ts : List Cond} {own : String} {As rest : List Value} {g : JFrame}
    (S : CallFix p m c cc nL s args Ts own) (hM : Met l y ws rm Pc Qc mc ms free) (cw : vx_CSW R s args own index y bytes maxL ret hh ws rm mc ms n) (hp : PreS s H Pc As)
    (hg : g.method = m) (hn : As.length = n) (hsize : g.locals.size = nL) (hstack : g.stack = As.reverse ++ rest) (hW : 2 * g.monitorRoom + (rest.map fun v => v.category).sum ≤ 8) (hdg : decode cc g.pc = .ok (.invokestatic index, 3)) (hf : cells + mc ≤ R.cells ∧ slots + ms ≤ R.slots) :
    va_Run p l e R s m args below meth c H locs cells slots mc ms g rest (Qc As.toArray) (free) := by
  obtain ⟨⟨hrc, hrs, hfr, hlo, hws, hcw⟩, hcode, hini, hy, hlen, hl, hstt⟩ := cw
  have hK : Back l R p e below s args y 3 8 (PreOf R mc ms Pc) (PostOf Qc mc ms free) := va_backW (hh := hh) (bytes := bytes) (maxL := maxL) (ret := ret) hM hp.1 hrc hrs hfr hlo hws hcw (fun a' U hW => word_at hW (Or.inl (by first | rfl | simp [Cond.onTables, Cond.keeps, Cond.steady])) hini)
  obtain ⟨hx, hb, hml, ho, -⟩ := S
  intro T hT X
  obtain ⟨v, vm₁, ⟨U', l2, c2, s2⟩, hW₁, X', ⟨g', mk, t, L, e1, e2, hq, h1, hL, h2, h3⟩, st⟩ := vx_callSW X hx (hh := hh) (bytes := bytes) (maxL := maxL) (ret := ret) ho hl hstt hini hcode hy hK hg (hsize.trans hml.symm) (argsL := As) (rest := rest) (fun sig h => hn.trans (hlen sig h)) hstack hW (by rw [hb]; exact hdg)
    (fun vm₁ hW₁ => ⟨hf.1, hf.2, hp.2 (T.setVm vm₁) hT hW₁⟩)
  dsimp only [Pt.U, Pt.locs, Pt.cells, Pt.slots] at X' e1 e2 h1 h2 h3 st
  subst h1; subst h2; subst h3
  exact ⟨v, (T.setVm vm₁).calling g' mk As.toArray, t, U', L, hT, X', hL, e1, e2, hq, st⟩
/-- a thing of a world lies in the heap -/
theorem vx_lt {D : va_G} {cl : List vw_C} {ws : va_W} {H1 : Heap} (h : va_P D cl ws H1) {k : Nat} {q : Nat × va_E} (hk : ws[k]? = some q) : q.1 < H1.size := (h k q hk).lt
end VXS
/-! ===== END ===== -/
/-! ===== BEGIN methods with a table of their own: called by a name, returning or throwing ===== -/
section VXH
/-! vx_backW, vx_callVX, vx_callSX, vx_callVW, vx_runVW, vx_runVX, vx_runSX, vx_ofWH follow the same proofs as their sisters above (Free/Laws.lean, Shelf42/LK1.lean); vx_outP calls Shelf42/NT130.lean (outThrough). -/
section
variable {l : Launch} {R : Room} {p : Program} {e : Env} {below : List Frame} {s : State} {sargs : Array Value} {y : MethodName} {len W9 : Nat}
theorem vx_backW {ws : List Cond} {rm : Room} {Pc : Array Value → State → Prop} {Qc : Array Value → State → Outcome → State → Prop} {XC : String → State → State → Prop} {mc ms : Nat} {free : Addr → Prop} {bytes : ByteArray} {maxL : Nat} {ret : Option FieldType} {hh : List (Nat × Nat × Nat × Nat)}
    (hM : vx_Met l y ws rm Pc Qc XC mc ms free) (hblind : FrameBlind Pc) (hrc : rm.cells = mc) (hrs : rm.slots = ms)
    (hframes : rm.frames + 1 ≤ R.frames) (hlocals : W9 + (maxL + 11) + rm.locals ≤ R.locals)
    (hws : ∀ w ∈ ws, ∀ a' U, s.WarmedH U.vm → w.before a' U = true) (hcode : Cond.codeWith y bytes maxL ret hh ∈ ws) (hinit : ∀ a' U, s.WarmedH U.vm → (Cond.initialized y.cls).before a' U = true) :
    vx_Back l R p e below s sargs y len W9 (PreOf R mc ms Pc) (PostOf Qc mc ms free) (vx_Post XC mc ms free) := by
  intro m meth c A g ig mk a X hg hsize hdg hW hn hp
  have h1 : (headSpec ws rm).pre.before a A.U = true := atoms_intro fun w hw => hws w hw _ _ X.warmed
  have h2 : (Cond.codeWith y bytes maxL ret hh).before a A.U = true := hws _ hcode _ _ X.warmed
  have h3 : (Cond.initialized y.cls).before a A.U = true := hinit _ _ X.warmed
  have h4 : A.cells + (headSpec ws rm).room.cells ≤ R.cells := by rw [show (headSpec ws rm).room.cells = mc from hrc]; exact hp.1
  have h5 : A.slots + (headSpec ws rm).room.slots ≤ R.slots := by rw [show (headSpec ws rm).room.slots = ms from hrs]; exact hp.2.1
  have hPc : Pc a (A.U.calling g mk a) := hblind _ _ _ _ hp.2.2
  obtain ⟨U, Ls, c0, s0⟩ := A
  dsimp only [Pt.U, Pt.locs, Pt.cells, Pt.slots] at h1 h2 h3 h4 h5 X hn hPc ⊢
  obtain ⟨m9, methY, cY, hn9, hmY, hcY, -, hlY, -⟩ := Cond.codeWith_spec h2
  cases Option.some.inj (hn9.symm.trans hn)
  obtain ⟨kY, hkY, -⟩ := className_of_methodNamed hn
  have hinitY : kY.init = .initialized := Cond.initialized_spec (findClass_of_methodNamed hn) hkY h3
  have h : At U g.method c below := by rw [hg]; exact X.here
  have hlocals9 : W9 + (maxL + 11) + (headSpec ws rm).room.locals ≤ R.locals := hlocals
  have happ : (headSpec ws rm).appliesLoose y e.platform (U.calling g mk a) = true :=
    Spec.appliesLoose_calling (g := g) h hdg hn hkY hinitY
      (X.room_calling (g := g) (R' := (headSpec ws rm).room) hsize hmY hcY hframes (by rw [hlY]; omega) h4 h5) h1
  obtain ⟨mid, hmid⟩ := h.above
  have hfr : (U.setTop g).frames = (.java g :: mid) ++ below := by rw [State.frames_setTop' g h.top, hmid]; rfl
  obtain ⟨o, s₂, hsteps, -, hend, hq⟩ := Steps.callFree hM p X.admits X.cas X.clock (acts := []) hfr happ hPc trivial
  have hq' : vx_Q Qc XC mc ms free a (U.calling g mk a) o s₂ := hq
  rw [State.frames_setTop' g h.top] at hend
  obtain ⟨g₀, hg0⟩ := Option.isSome_iff_exists.mp h.top
  obtain ⟨r, hr⟩ := State.topJava?_eq_some.mp hg0
  have hr' : (({ U with heap := s₂.heap, slotsUsed := s₂.slotsUsed } : State).setVm s₂.vm).frames = .java g₀ :: r := hr
  rcases hq' with ⟨hqc, L, hfe, hL⟩ | ⟨q, rfl, E, ce, L, hx, hce, hcv, hcl, hW₂, hsm, hL⟩
  · obtain ⟨⟨v, rfl⟩, hW₂, e2, q2, q3, q4, q5, q6⟩ := id hfe
    have e3 : s₂ = ({ (U.calling g mk a).setFrames s₂.frames with heap := s₂.heap, slotsUsed := s₂.slotsUsed } : State).setVm s₂.vm := by
      have : s₂ = ({ s₂ with vm := (U.calling g mk a).vm } : State).setVm s₂.vm := rfl
      rw [e2] at this
      exact this
    obtain ⟨c₂, i₂, len₂, hc₂, hd₂, hf₂⟩ := hend
    have hW' : U.WarmedH s₂.vm := hW₂
    have hcc : c₂ = c := by
      have h1 : s₂.code? g.method = U.code? g.method := by
        rw [State.code?_eq, State.code?_eq, hW'.alike.method?]
      exact Option.some.inj (hc₂.symm.trans (h1.trans h.code))
    subst hcc
    have hlen : len₂ = len := by rw [hdg] at hd₂; cases hd₂; rfl
    subst hlen
    have hs₂ : s₂ = (({ U with heap := s₂.heap, slotsUsed := s₂.slotsUsed } : State).setVm s₂.vm).setTop { g with pc := g.pc + len₂, stack := v.toList ++ g.stack } := by
      refine e3.trans ?_
      rw [hf₂, State.calling_eq h.top, State.setFrames_setFrames, State.setTop_of_frames _ hr', hr]
      rfl
    have hsame : U.sameButNew ({ U with heap := s₂.heap, slotsUsed := s₂.slotsUsed } : State) L mc ms := by
      refine ⟨?_, q2, q3, q4, q5, q6⟩
      obtain ⟨t, ht, -⟩ := State.frames_cons hr
      show ({ U with heap := s₂.heap, slotsUsed := s₂.slotsUsed } : State) = { U.setFrames U.frames with heap := s₂.heap, slotsUsed := s₂.slotsUsed }
      rw [State.setFrames_self ht]
    subst hg
    refine Or.inl ⟨v, ⟨(({ U with heap := s₂.heap, slotsUsed := s₂.slotsUsed } : State).setVm s₂.vm), Ls ++ L, c0 + mc, s0 + ms⟩,
      ⟨X.admits, X.cas, X.clock, X.frames, X.room, X.hears, X.method, X.code, (X.here.setHeapUsed s₂.heap s₂.slotsUsed).setVm hW'.alike, X.tail, State.WarmedH.trans X.warmed hW', X.limits, X.bytes, X.same.trans (hsame.setVm s.vm)⟩,
      ⟨g, mk, s₂, L, rfl, rfl, hqc, rfl, hL, rfl, rfl⟩, ?_⟩
    show Steps p.tables e below _ ((({ U with heap := s₂.heap, slotsUsed := s₂.slotsUsed } : State).setVm s₂.vm).setTop { g with pc := g.pc + len₂, stack := v.toList ++ g.stack })
    rw [← hs₂]
    exact hsteps
  · obtain ⟨e2, q2, q3, q4, q5, q6⟩ := id hsm
    have e3 : s₂ = ({ (U.calling g mk a).setFrames s₂.frames with heap := s₂.heap, slotsUsed := s₂.slotsUsed } : State).setVm s₂.vm := by
      have : s₂ = ({ s₂ with vm := (U.calling g mk a).vm } : State).setVm s₂.vm := rfl
      rw [e2] at this
      exact this
    have hf₂ : s₂.frames = .throwing q :: .java g :: U.frames.tail := hend
    have hW' : U.WarmedH s₂.vm := hW₂
    have hs₂ : s₂ = ((({ U with heap := s₂.heap, slotsUsed := s₂.slotsUsed } : State).setVm s₂.vm).setTop g).pushFrame (.throwing q) := by
      refine e3.trans ?_
      rw [hf₂, State.calling_eq h.top, State.setFrames_setFrames, State.pushFrame, State.frames_setTop _ hr', State.setTop_of_frames _ hr', State.setFrames_setFrames, hr]
      rfl
    have hsame : U.sameButNew ({ U with heap := s₂.heap, slotsUsed := s₂.slotsUsed } : State) L mc ms := by
      refine ⟨?_, q2, q3, q4, q5, q6⟩
      obtain ⟨t, ht, -⟩ := State.frames_cons hr
      show ({ U with heap := s₂.heap, slotsUsed := s₂.slotsUsed } : State) = { U.setFrames U.frames with heap := s₂.heap, slotsUsed := s₂.slotsUsed }
      rw [State.setFrames_self ht]
    subst hg
    refine Or.inr ⟨q, ⟨(({ U with heap := s₂.heap, slotsUsed := s₂.slotsUsed } : State).setVm s₂.vm), Ls ++ L, c0 + mc, s0 + ms⟩,
      ⟨X.admits, X.cas, X.clock, X.frames, X.room, X.hears, X.method, X.code, (X.here.setHeapUsed s₂.heap s₂.slotsUsed).setVm hW'.alike, X.tail, State.WarmedH.trans X.warmed hW', X.limits, X.bytes, X.same.trans (hsame.setVm s.vm)⟩,
      ⟨g, mk, s₂, L, E, ce, rfl, rfl, hx, hce, hcv, hcl, rfl, hL, rfl, rfl⟩, ?_⟩
    show Steps p.tables e below _ (((({ U with heap := s₂.heap, slotsUsed := s₂.slotsUsed } : State).setVm s₂.vm).setTop g).pushFrame (.throwing q))
    rw [← hs₂]
    exact hsteps
end
variable {p : Program} {l : Launch} {e : Env} {R : Room} {s : State} {m : MethodId} {args : Array Value} {below : List Frame} {meth : Method} {c : Code} {T : State} {H : Heap} {locs : List Loc} {cells slots : Nat}
theorem vx_callVX (X : Stand p l e R s m args below meth c T locs cells slots) (hexec : p.tables.exec = Jvm.exec) {own C : String} {index : Nat} {y : MethodName} {bytes : ByteArray} {maxL : Nat} {ret : Option FieldType} {hh : List (Nat × Nat × Nat × Nat)}
    (hown : s.vm.findClass own = some m.cls) (hlink : (Cond.methodLink own index y).before args s = true) (hinst : (Cond.instanceMethod y).before args s = true) (hsel : (Cond.selects C y y).before args s = true)
    (hcode : (Cond.codeWith y bytes maxL ret hh).before args s = true) (hy : y.cls ≠ "java/lang/invoke/MethodHandle" ∧ y.cls ≠ "java/lang/invoke/VarHandle")
    {W9 : Nat} {Pre : Pt → Array Value → Prop} {Post : Pt → Array Value → Option Value → Pt → Prop} {PostX : Pt → Array Value → Addr → Pt → Prop} (hK : vx_Back l R p e below s args y 3 W9 Pre Post PostX)
    {b : Addr} {cellB : Cell} (hcell : T.heap[b]? = some cellB) (hobj : cellB.vm.isStatics = false) (hcls : s.vm.findClass C = some cellB.cls)
    {g : JFrame} (hg : g.method = m) (hsize : g.locals.size = c.maxLocals) {argsL rest : List Value} (hlen : ∀ sig, parseMethodDescriptor y.desc = some sig → argsL.length = sig.parameters.length)
    (hstack : g.stack = argsL.reverse ++ .ref b :: rest) (hW : 2 * g.monitorRoom + (rest.map fun v => v.category).sum ≤ W9) (hdg : decode c.code g.pc = .ok (.invokevirtual index, 3))
    (hpre : ∀ vm₁, s.WarmedH vm₁ → Pre ⟨T.setVm vm₁, locs, cells, slots⟩ (Value.ref b :: argsL).toArray) :
    (∃ (v : Option Value) (vm₁ : Vm) (B : Pt), s.WarmedH vm₁ ∧ Stand p l e R s m args below meth c B.U B.locs B.cells B.slots ∧ Post ⟨T.setVm vm₁, locs, cells, slots⟩ (Value.ref b :: argsL).toArray v B ∧
      ∀ target, Steps p.tables e below (B.U.setTop { g with pc := g.pc + 3, stack := v.toList ++ rest }) target → Steps p.tables e below (T.setTop g) target) ∨
    (∃ (q : Addr) (vm₁ : Vm) (B : Pt), s.WarmedH vm₁ ∧ Stand p l e R s m args below meth c B.U B.locs B.cells B.slots ∧ PostX ⟨T.setVm vm₁, locs, cells, slots⟩ (Value.ref b :: argsL).toArray q B ∧
      Steps p.tables e below (T.setTop g) ((B.U.setTop { g with stack := rest }).pushFrame (.throwing q))) := by
  obtain ⟨mk, methM, hnamed, hmethM, hstM, habM⟩ := Cond.instanceMethod_spec hinst
  obtain ⟨m8, methM', cM, hn8, hmethM', -, -, -, -, -, -, hsigM⟩ := Cond.codeWith_spec hcode
  cases Option.some.inj (hn8.symm.trans hnamed)
  cases hmethM.symm.trans hmethM'
  obtain ⟨c2, r2, m2, q1, q2, q3, q4, kP, hkP, hkPi⟩ := Cond.selects_spec hsel
  cases hcls.symm.trans q1
  cases (State.methodFound?_of_named hnamed hy).symm.trans q2
  cases hnamed.symm.trans q3
  have hselP : selectMethod e.platform s.vm cellB.cls mk = .method mk := by rw [Launch.admits_selectMethod X.admits]; exact q4
  obtain ⟨vm₁, X₁, hstep₁⟩ := X.invokevirtual hexec hown hlink hnamed hmethM hstM hkP hkPi hy (a := b) (cell := cellB) hcell
    (fun z h => by rw [h] at hobj; cases hobj) hselP hmethM habM hkP hkPi (g := g) hg (argsL := argsL) (rest := rest) (hlen _ hsigM) hstack hdg
  rcases hK m meth c ⟨T.setVm vm₁, locs, cells, slots⟩ { g with stack := rest } (.invokevirtual index) mk (Value.ref b :: argsL).toArray X₁ hg hsize hdg hW (X₁.named hnamed) (hpre vm₁ X₁.warmed) with ⟨v, B, X', hpost, hsteps⟩ | ⟨q, B, X', hpost, hsteps⟩
  · exact Or.inl ⟨v, vm₁, B, X₁.warmed, X', hpost, fun target h => hstep₁ _ fun acts => by rw [doInvoke_state]; exact hsteps.trans h⟩
  · exact Or.inr ⟨q, vm₁, B, X₁.warmed, X', hpost, hstep₁ _ fun acts => by rw [doInvoke_state]; exact hsteps⟩
theorem vx_callSX (X : Stand p l e R s m args below meth c T locs cells slots) (hexec : p.tables.exec = Jvm.exec) {own : String} {index : Nat} {y : MethodName} {bytes : ByteArray} {maxL : Nat} {ret : Option FieldType} {hh : List (Nat × Nat × Nat × Nat)}
    (hown : s.vm.findClass own = some m.cls) (hlink : (Cond.methodLink own index y).before args s = true) (hstat : (Cond.static y).before args s = true) (hinit : (Cond.initialized y.cls).before args s = true)
    (hcode : (Cond.codeWith y bytes maxL ret hh).before args s = true) (hy : y.cls ≠ "java/lang/invoke/MethodHandle" ∧ y.cls ≠ "java/lang/invoke/VarHandle")
    {W9 : Nat} {Pre : Pt → Array Value → Prop} {Post : Pt → Array Value → Option Value → Pt → Prop} {PostX : Pt → Array Value → Addr → Pt → Prop} (hK : vx_Back l R p e below s args y 3 W9 Pre Post PostX)
    {g : JFrame} (hg : g.method = m) (hsize : g.locals.size = c.maxLocals) {argsL rest : List Value} (hlen : ∀ sig, parseMethodDescriptor y.desc = some sig → argsL.length = sig.parameters.length)
    (hstack : g.stack = argsL.reverse ++ rest) (hW : 2 * g.monitorRoom + (rest.map fun v => v.category).sum ≤ W9) (hdg : decode c.code g.pc = .ok (.invokestatic index, 3))
    (hpre : ∀ vm₁, s.WarmedH vm₁ → Pre ⟨T.setVm vm₁, locs, cells, slots⟩ argsL.toArray) :
    (∃ (v : Option Value) (vm₁ : Vm) (B : Pt), s.WarmedH vm₁ ∧ Stand p l e R s m args below meth c B.U B.locs B.cells B.slots ∧ Post ⟨T.setVm vm₁, locs, cells, slots⟩ argsL.toArray v B ∧
      ∀ target, Steps p.tables e below (B.U.setTop { g with pc := g.pc + 3, stack := v.toList ++ rest }) target → Steps p.tables e below (T.setTop g) target) ∨
    (∃ (q : Addr) (vm₁ : Vm) (B : Pt), s.WarmedH vm₁ ∧ Stand p l e R s m args below meth c B.U B.locs B.cells B.slots ∧ PostX ⟨T.setVm vm₁, locs, cells, slots⟩ argsL.toArray q B ∧
      Steps p.tables e below (T.setTop g) ((B.U.setTop { g with stack := rest }).pushFrame (.throwing q))) := by
  obtain ⟨mk, methM, cM, hnamed, hmethM, -, -, -, -, -, -, hsigM⟩ := Cond.codeWith_spec hcode
  have hstatic : methM.isStatic = true := Cond.static_spec hnamed hmethM hstat
  obtain ⟨kP, hkP, -⟩ := className_of_methodNamed hnamed
  have hinitP : kP.init = .initialized := Cond.initialized_spec (findClass_of_methodNamed hnamed) hkP hinit
  obtain ⟨vm₁, X₁, hstep₁⟩ := X.invokestatic hexec hown hlink hnamed hmethM hstatic hkP hinitP hy (g := g) hg (argsL := argsL) (rest := rest) (hlen _ hsigM) hstack hdg
  rcases hK m meth c ⟨T.setVm vm₁, locs, cells, slots⟩ { g with stack := rest } (.invokestatic index) mk argsL.toArray X₁ hg hsize hdg hW (X₁.named hnamed) (hpre vm₁ X₁.warmed) with ⟨v, B, X', hpost, hsteps⟩ | ⟨q, B, X', hpost, hsteps⟩
  · exact Or.inl ⟨v, vm₁, B, X₁.warmed, X', hpost, fun target h => hstep₁ _ fun acts => by rw [doInvoke_state]; exact hsteps.trans h⟩
  · exact Or.inr ⟨q, vm₁, B, X₁.warmed, X', hpost, hstep₁ _ fun acts => by rw [doInvoke_state]; exact hsteps⟩
theorem vx_callVW (X : Stand p l e R s m args below meth c T locs cells slots) (hexec : p.tables.exec = Jvm.exec) {own C : String} {index : Nat} {y : MethodName} {bytes : ByteArray} {maxL : Nat} {ret : Option FieldType} {hh : List (Nat × Nat × Nat × Nat)}
    (hown : s.vm.findClass own = some m.cls) (hlink : (Cond.methodLink own index y).before args s = true) (hinst : (Cond.instanceMethod y).before args s = true) (hsel : (Cond.selects C y y).before args s = true)
    (hcode : (Cond.codeWith y bytes maxL ret hh).before args s = true) (hy : y.cls ≠ "java/lang/invoke/MethodHandle" ∧ y.cls ≠ "java/lang/invoke/VarHandle")
    {W9 : Nat} {Pre : Pt → Array Value → Prop} {Post : Pt → Array Value → Option Value → Pt → Prop} (hK : Back l R p e below s args y 3 W9 Pre Post)
    {b : Addr} {cellB : Cell} (hcell : T.heap[b]? = some cellB) (hobj : cellB.vm.isStatics = false) (hcls : s.vm.findClass C = some cellB.cls)
    {g : JFrame} (hg : g.method = m) (hsize : g.locals.size = c.maxLocals) {argsL rest : List Value} (hlen : ∀ sig, parseMethodDescriptor y.desc = some sig → argsL.length = sig.parameters.length)
    (hstack : g.stack = argsL.reverse ++ .ref b :: rest) (hW : 2 * g.monitorRoom + (rest.map fun v => v.category).sum ≤ W9) (hdg : decode c.code g.pc = .ok (.invokevirtual index, 3))
    (hpre : ∀ vm₁, s.WarmedH vm₁ → Pre ⟨T.setVm vm₁, locs, cells, slots⟩ (Value.ref b :: argsL).toArray) :
    ∃ (v : Option Value) (vm₁ : Vm) (B : Pt), s.WarmedH vm₁ ∧ Stand p l e R s m args below meth c B.U B.locs B.cells B.slots ∧ Post ⟨T.setVm vm₁, locs, cells, slots⟩ (Value.ref b :: argsL).toArray v B ∧
      ∀ target, Steps p.tables e below (B.U.setTop { g with pc := g.pc + 3, stack := v.toList ++ rest }) target → Steps p.tables e below (T.setTop g) target := by
  obtain ⟨mk, methM, hnamed, hmethM, hstM, habM⟩ := Cond.instanceMethod_spec hinst
  obtain ⟨m8, methM', cM, hn8, hmethM', -, -, -, -, -, -, hsigM⟩ := Cond.codeWith_spec hcode
  cases Option.some.inj (hn8.symm.trans hnamed)
  cases hmethM.symm.trans hmethM'
  obtain ⟨c2, r2, m2, q1, q2, q3, q4, kP, hkP, hkPi⟩ := Cond.selects_spec hsel
  cases hcls.symm.trans q1
  cases (State.methodFound?_of_named hnamed hy).symm.trans q2
  cases hnamed.symm.trans q3
  have hselP : selectMethod e.platform s.vm cellB.cls mk = .method mk := by rw [Launch.admits_selectMethod X.admits]; exact q4
  obtain ⟨vm₁, X₁, hstep₁⟩ := X.invokevirtual hexec hown hlink hnamed hmethM hstM hkP hkPi hy (a := b) (cell := cellB) hcell
    (fun z h => by rw [h] at hobj; cases hobj) hselP hmethM habM hkP hkPi (g := g) hg (argsL := argsL) (rest := rest) (hlen _ hsigM) hstack hdg
  obtain ⟨v, B, X', hpost, hsteps⟩ := hK m meth c ⟨T.setVm vm₁, locs, cells, slots⟩ { g with stack := rest } (.invokevirtual index) mk (Value.ref b :: argsL).toArray X₁ hg hsize hdg hW (X₁.named hnamed) (hpre vm₁ X₁.warmed)
  exact ⟨v, vm₁, B, X₁.warmed, X', hpost, fun target h => hstep₁ _ fun acts => by rw [doInvoke_state]; exact hsteps.trans h⟩
abbrev vx_CVW (R : Room) (s : State) (args : Array Value) (own C : String) (index : Nat) (y : MethodName) (bytes : ByteArray) (maxL : Nat) (ret : Option FieldType) (hh : List (Nat × Nat × Nat × Nat)) (ws : List Cond) (rm : Room) (mc ms n : Nat) : Prop :=
  (rm.cells = mc ∧ rm.slots = ms ∧ rm.frames + 1 ≤ R.frames ∧ 8 + (maxL + 11) + rm.locals ≤ R.locals ∧ (∀ w ∈ ws, ∀ (a' : Array Value) (U : State), s.WarmedH U.vm → w.before a' U = true) ∧ Cond.codeWith y bytes maxL ret hh ∈ ws) ∧
  (Cond.codeWith y bytes maxL ret hh).before args s = true ∧ (Cond.initialized y.cls).before args s = true ∧ (y.cls ≠ "java/lang/invoke/MethodHandle" ∧ y.cls ≠ "java/lang/invoke/VarHandle") ∧
  (∀ sig, parseMethodDescriptor y.desc = some sig → n = sig.parameters.length) ∧ (Cond.methodLink own index y).before args s = true ∧ (Cond.instanceMethod y).before args s = true ∧ (Cond.selects C y y).before args s = true
theorem vx_cwVW {own C : String} {index maxL mc ms : Nat} {y : MethodName} {bytes : ByteArray} {ret : Option FieldType} {hh : List (Nat × Nat × Nat × Nat)} {Ts ws ws' : List Cond} {rm : Room} (n : Nat) (ht : ∀ w ∈ Ts, w.before args s = true) (hT : GoodIn Ts (wsV own index C y ws)) (hw : ws = Cond.codeWith y bytes maxL ret hh :: ws') (hrc : rm.cells = mc) (hrs : rm.slots = ms)
    (hd : y.cls = C ∧ y.cls ≠ "java/lang/invoke/MethodHandle" ∧ y.cls ≠ "java/lang/invoke/VarHandle" ∧ (parseMethodDescriptor y.desc).map (fun d => d.parameters.length) = some n) (hR : rm.frames + 1 ≤ R.frames ∧ 8 + (maxL + 11) + rm.locals ≤ R.locals) :
    vx_CVW R s args own C index y bytes maxL ret hh ws rm mc ms n := by
  obtain ⟨hC, hd⟩ := hd
  subst hC
  have ok : ∀ w ∈ wsV own index y.cls y ws, w.before args s = true := fun w h => ht w (hT w h).1
  have hG : GoodIn Ts ws := fun w h => hT w (by unfold wsV; exact List.mem_append_right _ h)
  have hc : Cond.codeWith y bytes maxL ret hh ∈ ws := by rw [hw]; exact List.mem_cons_self
  refine ⟨⟨hrc, hrs, hR.1, hR.2, pay_in ht hG, hc⟩, ht _ (hG _ hc).1, ok _ (by simp [wsV]), ⟨hd.1, hd.2.1⟩, fun sig h => ?_, ok _ (by simp [wsV]), ok _ (by simp [wsV]), ok _ (by simp [wsV])⟩
  have h2 := hd.2.2
  rw [h] at h2
  exact (Option.some.inj h2).symm
theorem vx_runVW {y : MethodName} {bytes cc : ByteArray} {maxL nL mc ms n index : Nat} {ret : Option FieldType} {hh : List (Nat × Nat × Nat × Nat)} {ws : List Cond} {rm : Room} {Pc : Array Value → State → Prop} {Qc : Array Value → State → Outcome → State → Prop} {free : Addr → Prop} {Ts : List Cond} {own C : String} {b : Addr} {As rest : List Value} {g : JFrame}
    (S : CallFix p m c cc nL s args Ts own) (hM : Met l y ws rm Pc Qc mc ms free) (cw : vx_CVW R s args own C index y bytes maxL ret hh ws rm mc ms n) (hp : PreV s H C b Pc As)
    (hg : g.method = m) (hn : As.length = n) (hsize : g.locals.size = nL) (hstack : g.stack = As.reverse ++ .ref b :: rest) (hW : 2 * g.monitorRoom + (rest.map fun v => v.category).sum ≤ 8) (hdg : decode cc g.pc = .ok (.invokevirtual index, 3)) (hf : cells + mc ≤ R.cells ∧ slots + ms ≤ R.slots) :
    va_Run p l e R s m args below meth c H locs cells slots mc ms g rest (Qc (Value.ref b :: As).toArray) free := by
  obtain ⟨⟨hrc, hrs, hfr, hlo, hws, hcw⟩, hcode, hini, hy, hlen, hl, hin, hse⟩ := cw
  have hK : Back l R p e below s args y 3 8 (PreOf R mc ms Pc) (PostOf Qc mc ms free) := va_backW (hh := hh) (bytes := bytes) (maxL := maxL) (ret := ret) hM hp.1 hrc hrs hfr hlo hws hcw (fun a' U hW => word_at hW (Or.inl (by first | rfl | simp [Cond.onTables, Cond.keeps, Cond.steady])) hini)
  obtain ⟨hx, hb, hml, ho, -⟩ := S
  obtain ⟨-, ⟨cellB, hcB, hoB, hclB⟩, hPc⟩ := hp
  intro T hT X
  obtain ⟨v, vm₁, ⟨U', l2, c2, s2⟩, hW₁, X', ⟨g', mk, t, L, e1, e2, hq, h1, hL, h2, h3⟩, st⟩ := vx_callVW X hx (C := C) (hh := hh) (bytes := bytes) (maxL := maxL) (ret := ret) ho hl hin hse hcode hy hK (by rw [hT]; exact hcB) hoB hclB hg (hsize.trans hml.symm) (argsL := As) (rest := rest) (fun sig h => hn.trans (hlen sig h)) hstack hW (by rw [hb]; exact hdg)
    (fun vm₁ hW₁ => ⟨hf.1, hf.2, hPc (T.setVm vm₁) hT hW₁⟩)
  dsimp only [Pt.U, Pt.locs, Pt.cells, Pt.slots] at X' e1 e2 h1 h2 h3 st
  subst h1; subst h2; subst h3
  exact ⟨v, (T.setVm vm₁).calling g' mk (Value.ref b :: As).toArray, t, U', L, hT, X', hL, e1, e2, hq, st⟩
section
variable {y : MethodName} {bytes cc : ByteArray} {maxL nL mc ms n index : Nat} {ret : Option FieldType} {ws : List Cond} {rm : Room} {Pc : Array Value → State → Prop} {Qc : Array Value → State → Outcome → State → Prop} {XC : String → State → State → Prop} {free : Addr → Prop} {Ts : List Cond} {own C : String} {b : Addr} {As rest : List Value} {g : JFrame}
theorem vx_runVX {hh : List (Nat × Nat × Nat × Nat)} (S : CallFix p m c cc nL s args Ts own) (hM : vx_Met l y ws rm Pc Qc XC mc ms free) (cw : vx_CVW R s args own C index y bytes maxL ret hh ws rm mc ms n) (hp : PreV s H C b Pc As)
    (hg : g.method = m) (hn : As.length = n) (hsize : g.locals.size = nL) (hstack : g.stack = As.reverse ++ .ref b :: rest) (hW : 2 * g.monitorRoom + (rest.map fun v => v.category).sum ≤ 8) (hdg : decode cc g.pc = .ok (.invokevirtual index, 3)) (hf : cells + mc ≤ R.cells ∧ slots + ms ≤ R.slots) :
    vx_Run p l e R s m args below meth c H locs cells slots mc ms g rest (Qc (Value.ref b :: As).toArray) XC free := by
  obtain ⟨⟨hrc, hrs, hfr, hlo, hws, hcw⟩, hcode, hini, hy, hlen, hl, hin, hse⟩ := cw
  have hK : vx_Back l R p e below s args y 3 8 (PreOf R mc ms Pc) (PostOf Qc mc ms free) (vx_Post XC mc ms free) := vx_backW (hh := hh) (bytes := bytes) (maxL := maxL) (ret := ret) hM hp.1 hrc hrs hfr hlo hws hcw (fun a' U hW => word_at hW (Or.inl (by first | rfl | simp [Cond.onTables, Cond.keeps, Cond.steady])) hini)
  obtain ⟨hx, hb, hml, ho, -⟩ := S
  obtain ⟨-, ⟨cellB, hcB, hoB, hclB⟩, hPc⟩ := hp
  intro T hT X
  rcases vx_callVX X hx (C := C) (hh := hh) (bytes := bytes) (maxL := maxL) (ret := ret) ho hl hin hse hcode hy hK (by rw [hT]; exact hcB) hoB hclB hg (hsize.trans hml.symm) (argsL := As) (rest := rest) (fun sig h => hn.trans (hlen sig h)) hstack hW (by rw [hb]; exact hdg)
    (fun vm₁ hW₁ => ⟨hf.1, hf.2, hPc (T.setVm vm₁) hT hW₁⟩) with ⟨v, vm₁, ⟨U', l2, c2, s2⟩, hW₁, X', ⟨g', mk, t, L, e1, e2, hq, h1, hL, h2, h3⟩, st⟩ | ⟨q, vm₁, ⟨U', l2, c2, s2⟩, hW₁, X', ⟨g', mk, t, L, E, ce, e1, e2, hq, hce, hcv, hcl, h1, hL, h2, h3⟩, st⟩
  · dsimp only [Pt.U, Pt.locs, Pt.cells, Pt.slots] at X' e1 e2 h1 h2 h3 st
    subst h1; subst h2; subst h3
    exact Or.inl ⟨v, (T.setVm vm₁).calling g' mk (Value.ref b :: As).toArray, t, U', L, hT, X', hL, e1, e2, hq, st⟩
  · dsimp only [Pt.U, Pt.locs, Pt.cells, Pt.slots] at X' e1 e2 h1 h2 h3 st hcl
    subst h1; subst h2; subst h3
    exact Or.inr ⟨q, (T.setVm vm₁).calling g' mk (Value.ref b :: As).toArray, t, U', L, E, ce, hT, X', hL, e1, e2, hq, hce, hcv, vx_cls hW₁ hcl, st⟩
theorem vx_runSX {hh : List (Nat × Nat × Nat × Nat)} (S : CallFix p m c cc nL s args Ts own) (hM : vx_Met l y ws rm Pc Qc XC mc ms free) (cw : vx_CSW R s args own index y bytes maxL ret hh ws rm mc ms n) (hp : PreS s H Pc As)
    (hg : g.method = m) (hn : As.length = n) (hsize : g.locals.size = nL) (hstack : g.stack = As.reverse ++ rest) (hW : 2 * g.monitorRoom + (rest.map fun v => v.category).sum ≤ 8) (hdg : decode cc g.pc = .ok (.invokestatic index, 3)) (hf : cells + mc ≤ R.cells ∧ slots + ms ≤ R.slots) :
    vx_Run p l e R s m args below meth c H locs cells slots mc ms g rest (Qc As.toArray) XC free := by
  obtain ⟨⟨hrc, hrs, hfr, hlo, hws, hcw⟩, hcode, hini, hy, hlen, hl, hstt⟩ := cw
  have hK : vx_Back l R p e below s args y 3 8 (PreOf R mc ms Pc) (PostOf Qc mc ms free) (vx_Post XC mc ms free) := vx_backW (hh := hh) (bytes := bytes) (maxL := maxL) (ret := ret) hM hp.1 hrc hrs hfr hlo hws hcw (fun a' U hW => word_at hW (Or.inl (by first | rfl | simp [Cond.onTables, Cond.keeps, Cond.steady])) hini)
  obtain ⟨hx, hb, hml, ho, -⟩ := S
  intro T hT X
  rcases vx_callSX X hx (hh := hh) (bytes := bytes) (maxL := maxL) (ret := ret) ho hl hstt hini hcode hy hK hg (hsize.trans hml.symm) (argsL := As) (rest := rest) (fun sig h => hn.trans (hlen sig h)) hstack hW (by rw [hb]; exact hdg)
    (fun vm₁ hW₁ => ⟨hf.1, hf.2, hp.2 (T.setVm vm₁) hT hW₁⟩) with ⟨v, vm₁, ⟨U', l2, c2, s2⟩, hW₁, X', ⟨g', mk, t, L, e1, e2, hq, h1, hL, h2, h3⟩, st⟩ | ⟨q, vm₁, ⟨U', l2, c2, s2⟩, hW₁, X', ⟨g', mk, t, L, E, ce, e1, e2, hq, hce, hcv, hcl, h1, hL, h2, h3⟩, st⟩
  · dsimp only [Pt.U, Pt.locs, Pt.cells, Pt.slots] at X' e1 e2 h1 h2 h3 st
    subst h1; subst h2; subst h3
    exact Or.inl ⟨v, (T.setVm vm₁).calling g' mk As.toArray, t, U', L, hT, X', hL, e1, e2, hq, st⟩
  · dsimp only [Pt.U, Pt.locs, Pt.cells, Pt.slots] at X' e1 e2 h1 h2 h3 st hcl
    subst h1; subst h2; subst h3
    exact Or.inr ⟨q, (T.setVm vm₁).calling g' mk As.toArray, t, U', L, E, ce, hT, X', hL, e1, e2, hq, hce, hcv, vx_cls hW₁ hcl, st⟩
end
end VXH
theorem vx_ofWH {l : Launch} {y : MethodName} {ws ws' : List Cond} {rm : Room} {Pc : Array Value → State → Prop} {Qc : Array Value → State → Outcome → State → Prop} {XC : String → State → State → Prop} {mc ms : Nat} {free : Addr → Prop} {cc : ByteArray} {maxL : Nat} {ret : Option FieldType} {hh : List (Nat × Nat × Nat × Nat)}
    (hy : plainName y.cls = true) (hw : ws = Cond.codeWith y cc maxL ret hh :: ws')
    (body : ∀ p e s m args below meth c s₁, BodyLoose p l y (headSpec ws rm) cc maxL ret e s m args below meth c s₁ → c.maxLocals = maxL → Pc args s →
      W p l e (headSpec ws rm).room s m args below meth c s.heap [] 0 0 (vx_MQ below Qc XC args s mc ms free) (entryFrame m args maxL)) : vx_Met l y ws rm Pc Qc XC mc ms free := by
  refine MetFree.of_bodyS (code := cc) (maxLocals := maxL) (ret := ret) hy ?_ ?_
  · intro args s m h hn
    obtain ⟨m9, meth, c, hn9, h1, h2, h3, h4, -, h5, h6, -⟩ := Cond.codeWith_spec (atoms_spec (ws := ws) h _ (by rw [hw]; exact List.mem_cons_self))
    cases hn.symm.trans hn9
    exact ⟨meth, c, h1, h2, h3, h4, h5, h6⟩
  · intro p e s m args below meth c s₁ B hml hP _
    have hh0 : s₁.heap = s.heap := by rw [B.state]; rfl
    obtain ⟨t, a1, o, b1, b2, b3⟩ := body p e s m args below meth c s₁ B hml hP s₁ hh0 (Stand.of_body B)
    exact ⟨t, o, a1, b1, b2, b3⟩
/-! ===== END ===== -/
end
section
/-! THE SMALL MACHINE: a frame over a small world, values with handles (places of the world) in the stead of addresses; what a stretch of instructions asks is computed (pm_wp) -/
section PMA
def pm_v (ad : Nat → Nat) : Value → Value
  | .ref k => .ref (ad k)
  | .int x => .int x
  | .long x => .long x
  | .float x => .float x
  | .double x => .double x
  | .null => .null
  | .retAddr x => .retAddr x
abbrev pm_E : Type := (FieldType × vp_A) ⊕ (Nat × List Value)
def pm_c (ad : Nat → Nat) (t : ClassId) : pm_E → va_E
  | .inl a => .inl (t, a.2)
  | .inr o => .inr (o.1, o.2.map (pm_v ad))
def pm_w (ad : Nat → Nat) (tI : Nat → ClassId) (w : List pm_E) : va_W := w.mapIdx (fun k c => (ad k, pm_c ad (tI k) c))
def pm_nth {α : Type} : List α → Nat → Option α
  | [], _ => none
  | a :: _, 0 => some a
  | _ :: l, i + 1 => pm_nth l i
theorem pm_nth_eq {α : Type} : ∀ (l : List α) (i : Nat), pm_nth l i = l[i]?
  | [], i => by simp [pm_nth]
  | a :: l, 0 => by simp [pm_nth]
  | a :: l, i + 1 => by simp [pm_nth, pm_nth_eq l i]
theorem pm_cat (ad : Nat → Nat) (v : Value) : (pm_v ad v).category = v.category := by cases v <;> rfl
theorem pm_w_get {ad : Nat → Nat} {tI : Nat → ClassId} {w : List pm_E} {k : Nat} {c : pm_E} (h : w[k]? = some c) : (pm_w ad tI w)[k]? = some (ad k, pm_c ad (tI k) c) := by
  simp [pm_w, List.getElem?_mapIdx, h]
theorem pm_w_set (ad : Nat → Nat) (tI : Nat → ClassId) (w : List pm_E) (k : Nat) (c : pm_E) : pm_w ad tI (w.set k c) = (pm_w ad tI w).set k (ad k, pm_c ad (tI k) c) := by
  apply List.ext_getElem?
  intro i
  simp only [pm_w, List.getElem?_mapIdx, List.getElem?_set]
  by_cases h : k = i
  · subst h
    by_cases h2 : k < w.length
    · simp [h2]
    · simp [h2]
  · simp [h]
theorem pm_w_len (ad : Nat → Nat) (tI : Nat → ClassId) (w : List pm_E) : (pm_w ad tI w).length = w.length := by simp [pm_w]
/-- the arrays' own words of the tables, and the classes' -/
def pm_K (D : va_G) (cl : List vw_C) (tI : Nat → ClassId) (w : List pm_E) (U : State) : Prop := (∀ (c : Nat) (q : vw_C), cl[c]? = some q → u_Kn U q.1 q.2.1 q.2.2 (D.1 c) (D.2 c)) ∧ ∀ (k : Nat) (a : FieldType × vp_A), w[k]? = some (.inl a) → ArrOfT U (tI k) a.1 ∧ va_RA U (tI k) a.1
theorem pm_K.moved {D : va_G} {cl : List vw_C} {tI : Nat → ClassId} {w : List pm_E} {u U : State} (hvm : u.vm.Alike U.vm) (h : pm_K D cl tI w u) : pm_K D cl tI w U := ⟨fun c q hq => u_Kn_moved hvm (h.1 c q hq), fun k a hk => ⟨arrOfT_moved hvm (h.2 k a hk).1, (h.2 k a hk).2.moved hvm⟩⟩
theorem pm_K.at {D : va_G} {cl : List vw_C} {tI : Nat → ClassId} {w : List pm_E} {U : State} (h : pm_K D cl tI w U) {k : Nat} {t : FieldType} {a : vp_A} (hk : w[k]? = some (.inl (t, a))) : va_K D cl [(tI k, t)] U := by
  refine ⟨h.1, fun i q hq => ?_⟩
  cases i with
  | zero => cases hq; exact h.2 k _ hk
  | succ i => simp at hq
theorem pm_K.obj {D : va_G} {cl : List vw_C} {tI : Nat → ClassId} {w : List pm_E} {U : State} (h : pm_K D cl tI w U) : va_K D cl [] U := ⟨h.1, fun i q hq => by simp at hq⟩
/-- a cell of the same kind in its place -/
theorem pm_K.setA {D : va_G} {cl : List vw_C} {tI : Nat → ClassId} {w : List pm_E} {U : State} (h : pm_K D cl tI w U) {k : Nat} {t : FieldType} {a b : vp_A} (hk : w[k]? = some (.inl (t, a))) : pm_K D cl tI (w.set k (.inl (t, b))) U := by
  refine ⟨h.1, fun i q hq => ?_⟩
  rw [List.getElem?_set] at hq
  by_cases hi : k = i
  · subst hi
    have hl := (List.getElem?_eq_some_iff.mp hk).1
    simp only [if_true, hl] at hq
    cases hq
    exact h.2 k (t, a) hk
  · rw [if_neg hi] at hq
    exact h.2 i q hq
theorem pm_K.setO {D : va_G} {cl : List vw_C} {tI : Nat → ClassId} {w : List pm_E} {U : State} (h : pm_K D cl tI w U) {k : Nat} {o : Nat × List Value} : pm_K D cl tI (w.set k (.inr o)) U := by
  refine ⟨h.1, fun i q hq => ?_⟩
  rw [List.getElem?_set] at hq
  by_cases hi : k = i
  · subst hi
    simp only [if_true] at hq
    split at hq
    · cases hq
    · cases hq
  · rw [if_neg hi] at hq
    exact h.2 i q hq
/-- locals by their places -/
def pm_L (ad : Nat → Nat) (nL : Nat) (ls : Array Slot) (L : List (Option Value)) : Prop := L.length = nL ∧ ls.size = nL ∧ lv_wf ls ∧ ∀ (i : Nat) (v : Value), L[i]? = some (some v) → ls[i]? = some (.val (pm_v ad v))
def pm_lv (ad : Nat → Nat) (L : List (Option Value)) : List (Nat × Value) := (List.range L.length).filterMap (fun i => (L[i]?.join).map (fun v => (i, pm_v ad v)))
theorem pm_lv_mem {ad : Nat → Nat} {L : List (Option Value)} {i : Nat} {x : Value} : (i, x) ∈ pm_lv ad L ↔ ∃ v, L[i]? = some (some v) ∧ x = pm_v ad v := by
  simp only [pm_lv, List.mem_filterMap, List.mem_range, Option.map_eq_some_iff, Prod.mk.injEq, Option.join_eq_some_iff]
  constructor
  · rintro ⟨j, -, v, hv, rfl, rfl⟩
    exact ⟨v, hv, rfl⟩
  · rintro ⟨v, hv, rfl⟩
    exact ⟨i, (List.getElem?_eq_some_iff.mp hv).1, v, hv, rfl, rfl⟩
theorem pm_L.has {ad : Nat → Nat} {nL : Nat} {ls : Array Slot} {L : List (Option Value)} (h : pm_L ad nL ls L) : lv_has ls nL (pm_lv ad L) := by
  refine ⟨h.2.1, h.2.2.1, fun q hq => ?_⟩
  obtain ⟨i, x⟩ := q
  obtain ⟨v, hv, rfl⟩ := pm_lv_mem.mp hq
  exact h.2.2.2 i v hv
def pm_dr (L : List (Option Value)) (i : Nat) : List (Option Value) := match i with
  | 0 => L
  | j + 1 => match pm_nth L j with
    | some (some u) => match Nat.beq u.category 2 with
      | true => L.set j none
      | false => L
    | _ => L
def pm_s1 (L : List (Option Value)) (i : Nat) (v : Value) : List (Option Value) := (pm_dr L i).set i (some v)
def pm_s2 (L : List (Option Value)) (i : Nat) (v : Value) : List (Option Value) := ((pm_dr L i).set i (some v)).set (i + 1) none
theorem pm_dr_len (L : List (Option Value)) (i : Nat) : (pm_dr L i).length = L.length := by
  unfold pm_dr
  split
  · rfl
  · split
    · split
      · simp
      · rfl
    · rfl
theorem pm_dr_get {L : List (Option Value)} {i j : Nat} {v : Value} (h : (pm_dr L i)[j]? = some (some v)) : L[j]? = some (some v) ∧ ¬ (j + 1 = i ∧ v.category = 2) := by
  unfold pm_dr at h
  split at h
  · exact ⟨h, fun q => by omega⟩
  · rename_i k
    split at h
    · rename_i u hu
      rw [pm_nth_eq] at hu
      split at h
      · rw [List.getElem?_set] at h
        by_cases hk : k = j
        · subst hk
          simp only [if_true] at h
          split at h <;> simp at h
        · rw [if_neg hk] at h
          exact ⟨h, fun q => hk (by omega)⟩
      · rename_i hc
        refine ⟨h, fun q => ?_⟩
        have hkj : k = j := by omega
        subst hkj
        rw [hu] at h
        cases h
        rw [q.2] at hc
        cases hc
    · rename_i hu
      refine ⟨h, fun q => ?_⟩
      have hkj : k = j := by omega
      subst hkj
      rw [pm_nth_eq] at hu
      exact hu v h
theorem pm_L.s1 {ad : Nat → Nat} {nL : Nat} {ls ls' : Array Slot} {L : List (Option Value)} {i : Nat} {v : Value} (h : pm_L ad nL ls L)
    (h' : lv_has ls' nL ((i, pm_v ad v) :: (pm_lv ad L).filter (fun q => !(q.1 == i) && !(q.1 + 1 == i && q.2.category == 2)))) : pm_L ad nL ls' (pm_s1 L i v) := by
  refine ⟨by simp [pm_s1, pm_dr_len, h.1], h'.1, h'.2.1, fun j u hu => ?_⟩
  unfold pm_s1 at hu
  rw [List.getElem?_set] at hu
  by_cases hij : i = j
  · subst hij
    simp only [if_true] at hu
    split at hu
    · cases hu
      exact h'.2.2 _ List.mem_cons_self
    · cases hu
  · rw [if_neg hij] at hu
    obtain ⟨h1, h2⟩ := pm_dr_get hu
    refine h'.2.2 (j, pm_v ad u) (List.mem_cons_of_mem _ (List.mem_filter.mpr ⟨pm_lv_mem.mpr ⟨u, h1, rfl⟩, ?_⟩))
    simp only [pm_cat, Bool.and_eq_true, Bool.not_eq_true', beq_eq_false_iff_ne, ne_eq, Bool.and_eq_false_iff, beq_iff_eq]
    refine ⟨fun q => hij q.symm, ?_⟩
    by_cases q : j + 1 = i
    · exact Or.inr (fun z => h2 ⟨q, z⟩)
    · exact Or.inl q
theorem pm_L.s2 {ad : Nat → Nat} {nL : Nat} {ls ls' : Array Slot} {L : List (Option Value)} {i : Nat} {v : Value} (h : pm_L ad nL ls L)
    (h' : lv_has ls' nL ((i, pm_v ad v) :: (pm_lv ad L).filter (fun q => !(q.1 == i) && (!(q.1 == i + 1) && !(q.1 + 1 == i && q.2.category == 2))))) : pm_L ad nL ls' (pm_s2 L i v) := by
  refine ⟨by simp [pm_s2, pm_dr_len, h.1], h'.1, h'.2.1, fun j u hu => ?_⟩
  unfold pm_s2 at hu
  rw [List.getElem?_set] at hu
  by_cases hij1 : i + 1 = j
  · subst hij1
    simp only [if_true] at hu
    split at hu <;> simp at hu
  rw [if_neg hij1, List.getElem?_set] at hu
  by_cases hij : i = j
  · subst hij
    simp only [if_true] at hu
    split at hu
    · cases hu
      exact h'.2.2 _ List.mem_cons_self
    · cases hu
  · rw [if_neg hij] at hu
    obtain ⟨h1, h2⟩ := pm_dr_get hu
    refine h'.2.2 (j, pm_v ad u) (List.mem_cons_of_mem _ (List.mem_filter.mpr ⟨pm_lv_mem.mpr ⟨u, h1, rfl⟩, ?_⟩))
    simp only [pm_cat, Bool.and_eq_true, Bool.not_eq_true', beq_eq_false_iff_ne, ne_eq, Bool.and_eq_false_iff, beq_iff_eq]
    refine ⟨fun q => hij q.symm, fun q => hij1 q.symm, ?_⟩
    by_cases q : j + 1 = i
    · exact Or.inr (fun z => h2 ⟨q, z⟩)
    · exact Or.inl q
end PMA
end
section
section PMB
/-- a whole constant -/
def pm_k (n : Int) : Int32 := match n with
  | .ofNat k => nI k
  | .negSucc k => -nI (k + 1)
theorem pm_k_eq (n : Int) : Int32.ofInt n = pm_k n := by
  cases n with
  | ofNat k => exact Int32.ofInt_eq_ofNat
  | negSucc k =>
    show Int32.ofInt (Int.negSucc k) = -nI (k + 1)
    rw [Int.negSucc_eq, Int32.ofInt_neg]
    rfl
theorem pm_k8 (n : Int) (h1 : -128 ≤ n) (h2 : n < 128) : (Int8.ofInt n).toInt32 = pm_k n := by
  rw [← pm_k_eq]
  apply Int32.toInt_inj.mp
  rw [Int8.toInt_toInt32, Int8.toInt_ofInt_of_le (by omega) (by omega), Int32.toInt_ofInt_of_le (by omega) (by omega)]
theorem pm_k16 (n : Int) (h1 : -32768 ≤ n) (h2 : n < 32768) : (Int16.ofInt n).toInt32 = pm_k n := by
  rw [← pm_k_eq]
  apply Int32.toInt_inj.mp
  rw [Int16.toInt_toInt32, Int16.toInt_ofInt_of_le (by omega) (by omega), Int32.toInt_ofInt_of_le (by omega) (by omega)]
def pm_stk (i : Instr) (st : List Value) : Option (Nat × List Value) :=
  match i, st with
  | .iconst n, r => some (1, .int (pm_k n) :: r)
  | .lconst n, r => some (1, .long (lN n.val) :: r)
  | .iadd, .int y :: .int x :: r => some (1, .int (x + y) :: r)
  | .isub, .int y :: .int x :: r => some (1, .int (x - y) :: r)
  | .imul, .int y :: .int x :: r => some (1, .int (x * y) :: r)
  | .iand, .int y :: .int x :: r => some (1, .int (x &&& y) :: r)
  | .ior, .int y :: .int x :: r => some (1, .int (x ||| y) :: r)
  | .ixor, .int y :: .int x :: r => some (1, .int (x ^^^ y) :: r)
  | .ishl, .int y :: .int x :: r => some (1, .int (x <<< (y &&& 31)) :: r)
  | .ishr, .int y :: .int x :: r => some (1, .int (x >>> (y &&& 31)) :: r)
  | .iushr, .int y :: .int x :: r => some (1, .int ((x.toUInt32 >>> (y.toUInt32 &&& Int32.toUInt32 31)).toInt32) :: r)
  | .ladd, .long y :: .long x :: r => some (1, .long (x + y) :: r)
  | .lmul, .long y :: .long x :: r => some (1, .long (x * y) :: r)
  | .land, .long y :: .long x :: r => some (1, .long (x &&& y) :: r)
  | .lor, .long y :: .long x :: r => some (1, .long (x ||| y) :: r)
  | .lxor, .long y :: .long x :: r => some (1, .long (x ^^^ y) :: r)
  | .lshl, .int y :: .long x :: r => some (1, .long (x <<< (y.toInt64 &&& 63)) :: r)
  | .lushr, .int y :: .long x :: r => some (1, .long ((x.toUInt64 >>> (y.toInt64.toUInt64 &&& Int64.toUInt64 63)).toInt64) :: r)
  | .lcmp, .long y :: .long x :: r => some (1, .int (lg_cmp x y) :: r)
  | .i2l, .int x :: r => some (1, .long x.toInt64 :: r)
  | .l2i, .long x :: r => some (1, .int x.toInt32 :: r)
  | .i2c, .int x :: r => some (1, .int (x.toUInt32 % 65536).toInt32 :: r)
  | .i2f, .int x :: r => some (1, .float (FP.i2f x) :: r)
  | .fcmp op, .float y :: .float x :: r => some (1, .int (Op.cmpValue (FP.fcmp x y) op) :: r)
  | .dcmp op, .double y :: .double x :: r => some (1, .int (Op.cmpValue (FP.dcmp x y) op) :: r)
  | _, _ => none
def pm_stk2 (i : Instr) (st : List Value) : Option (Nat × List Value) :=
  match i with
  | .bipush n => match decide (-128 ≤ n) && decide (n < 128) with
    | true => some (2, .int (pm_k n) :: st)
    | false => none
  | .sipush n => match decide (-32768 ≤ n) && decide (n < 32768) with
    | true => some (3, .int (pm_k n) :: st)
    | false => none
  | .fconst n => match n.val with
    | 0 => some (1, .float FP.fconst0 :: st)
    | 1 => some (1, .float FP.fconst1 :: st)
    | _ => none
  | .dup => match st with
    | a :: r => match Nat.beq a.category 1 with
      | true => some (1, a :: a :: r)
      | false => none
    | _ => none
  | .dup2 => match st with
    | a :: b :: r => match Nat.beq a.category 1 && Nat.beq b.category 1 with
      | true => some (1, a :: b :: a :: b :: r)
      | false => none
    | _ => none
  | _ => none
/-- with a guard -/
def pm_gst (i : Instr) (st : List Value) : Option (Prop × Nat × List Value) :=
  match i, st with
  | .idiv, .int y :: .int x :: r => some (¬ y = 0, 1, .int (x / y) :: r)
  | .irem, .int y :: .int x :: r => some (¬ y = 0, 1, .int (x - x / y * y) :: r)
  | .fdiv, .float y :: .float x :: r => some (vf_n32 (FP.fdiv x y), 1, .float (FP.fdiv x y) :: r)
  | .fmul, .float y :: .float x :: r => some (vf_n32 (FP.fmul x y), 1, .float (FP.fmul x y) :: r)
  | .f2d, .float x :: r => some (vf_n64 (FP.f2d x), 1, .double (FP.f2d x) :: r)
  | _, _ => none
/-- a branch: its condition, its offset, the stack behind it -/
def pm_br (i : Instr) (st : List Value) : Option (Prop × Int × List Value) :=
  match i, st with
  | .if_icmp q off, .int y :: .int x :: r => some (match q with
    | .eq => x = y
    | .ne => ¬ x = y
    | .lt => x < y
    | .ge => y ≤ x
    | .gt => y < x
    | .le => x ≤ y, off, r)
  | .ifCond q off, .int x :: r => some (match q with
    | .eq => x = 0
    | .ne => ¬ x = 0
    | .lt => x < 0
    | .ge => 0 ≤ x
    | .gt => 0 < x
    | .le => x ≤ 0, off, r)
  | _, _ => none
variable {p : Program} {l : Launch} {e : Env} {R : Room} {s : State} {m : MethodId} {args : Array Value} {below : List Frame} {meth : Method} {c : Code} {H : Heap} {locs : List Loc} {cells slots : Nat} {Q : State → Prop} {cc : ByteArray} {pc : Nat} {ls : Array Slot} {ad : Nat → Nat}
set_option maxHeartbeats 1000000 in
theorem pm_stk_ok (hx : p.tables.exec = Jvm.exec) (hb : c.code = cc) {i : Instr} {n : Nat} {st st' : List Value} (h : pm_stk i st = some (n, st')) (hdg : decode cc pc = .ok (i, n))
    (k : W p l e R s m args below meth c H locs cells slots Q (F0 m (pc + n) ls (st'.map (pm_v ad)))) : W p l e R s m args below meth c H locs cells slots Q (F0 m pc ls (st.map (pm_v ad))) := by
  unfold pm_stk at h
  split at h
  · cases h; exact lv_iconst hx hb hdg (pm_k_eq _) k
  · cases h; exact lv_lconst hx hb hdg rfl k
  · cases h; exact lv_iadd hx hb hdg k
  · cases h; exact lv_isub hx hb hdg k
  · cases h; exact lv_imul hx hb hdg k
  · cases h; exact lv_iand hx hb hdg k
  · cases h; exact lv_ior hx hb hdg k
  · cases h; exact lv_ixor hx hb hdg k
  · cases h; exact lv_ishl hx hb hdg k
  · cases h; exact lv_ishr hx hb hdg k
  · cases h; exact lv_iushr hx hb hdg rfl k
  · cases h; exact lv_ladd hx hb hdg k
  · cases h; exact lv_lmul hx hb hdg k
  · cases h; exact lv_land hx hb hdg k
  · cases h; exact lv_lor hx hb hdg k
  · cases h; exact lv_lxor hx hb hdg k
  · cases h; exact lv_lshl hx hb hdg rfl k
  · cases h; exact lv_lushr hx hb hdg rfl k
  · cases h; exact W.lcmp hx hb hdg k
  · cases h; exact lv_i2l hx hb hdg rfl k
  · cases h; exact lv_l2i hx hb hdg rfl k
  · cases h; exact lv_i2c hx hb hdg rfl k
  · cases h; exact lv_i2f hx hb hdg k
  · cases h; exact lv_fcmp hx hb hdg k
  · cases h; exact lv_dcmp hx hb hdg k
  · cases h
set_option maxHeartbeats 1000000 in
theorem pm_stk2_ok (hx : p.tables.exec = Jvm.exec) (hb : c.code = cc) {i : Instr} {n : Nat} {st st' : List Value} (h : pm_stk2 i st = some (n, st')) (hdg : decode cc pc = .ok (i, n))
    (k : W p l e R s m args below meth c H locs cells slots Q (F0 m (pc + n) ls (st'.map (pm_v ad)))) : W p l e R s m args below meth c H locs cells slots Q (F0 m pc ls (st.map (pm_v ad))) := by
  unfold pm_stk2 at h
  split at h
  · split at h
    · rename_i hq
      cases h
      simp only [Bool.and_eq_true, decide_eq_true_eq] at hq
      exact lv_bipush hx hb hdg (pm_k8 _ hq.1 hq.2) k
    · cases h
  · split at h
    · rename_i hq
      cases h
      simp only [Bool.and_eq_true, decide_eq_true_eq] at hq
      exact lv_sipush hx hb hdg (pm_k16 _ hq.1 hq.2) k
    · cases h
  · rename_i f
    split at h
    · rename_i hq
      cases h
      have hf : f = 0 := Fin.ext hq
      subst hf
      exact lv_fconst0 hx hb hdg k
    · rename_i hq
      cases h
      have hf : f = 1 := Fin.ext hq
      subst hf
      exact lv_fconst1 hx hb hdg k
    · cases h
  · split at h
    · split at h
      · rename_i hq
        cases h
        exact lv_dup hx hb hdg (by rw [pm_cat]; exact Nat.eq_of_beq_eq_true hq) k
      · cases h
    · cases h
  · split at h
    · split at h
      · rename_i hq
        cases h
        simp only [Bool.and_eq_true] at hq
        exact lv_dup2_11 hx hb hdg (by rw [pm_cat]; exact Nat.eq_of_beq_eq_true hq.1) (by rw [pm_cat]; exact Nat.eq_of_beq_eq_true hq.2) k
      · cases h
    · cases h
  · cases h
theorem pm_gst_ok (hx : p.tables.exec = Jvm.exec) (hb : c.code = cc) {i : Instr} {n : Nat} {st st' : List Value} {g : Prop} (h : pm_gst i st = some (g, n, st')) (hg : g) (hdg : decode cc pc = .ok (i, n))
    (k : W p l e R s m args below meth c H locs cells slots Q (F0 m (pc + n) ls (st'.map (pm_v ad)))) : W p l e R s m args below meth c H locs cells slots Q (F0 m pc ls (st.map (pm_v ad))) := by
  unfold pm_gst at h
  split at h
  · cases h; exact lv_idiv hx hb hdg hg k
  · cases h; exact lv_irem hx hb hdg hg k
  · cases h; exact lv_fdiv hx hb hdg hg k
  · cases h; exact lv_fmul hx hb hdg hg k
  · cases h; exact lv_f2d hx hb hdg hg k
  · cases h
theorem pm_br_ok (hx : p.tables.exec = Jvm.exec) (hb : c.code = cc) {i : Instr} {st st' : List Value} {q : Prop} {off : Int} {tgt : Nat} (h : pm_br i st = some (q, off, st')) (ht : (pc : Int) + off = (tgt : Int)) (hdg : decode cc pc = .ok (i, 3))
    (kt : q → W p l e R s m args below meth c H locs cells slots Q (F0 m tgt ls (st'.map (pm_v ad)))) (kf : ¬ q → W p l e R s m args below meth c H locs cells slots Q (F0 m (pc + 3) ls (st'.map (pm_v ad)))) : W p l e R s m args below meth c H locs cells slots Q (F0 m pc ls (st.map (pm_v ad))) := by
  unfold pm_br at h
  split at h
  · rename_i cnd off' y x r
    cases cnd <;> cases h
    · exact lv_icmp_eq hx hb hdg ht kt kf
    · exact lv_icmp_ne hx hb hdg ht kt (fun z => kf (fun w => w z))
    · exact lv_icmp_lt hx hb hdg ht kt kf
    · exact lv_icmp_ge hx hb hdg ht kt kf
    · exact lv_icmp_gt hx hb hdg ht kt kf
    · exact lv_icmp_le hx hb hdg ht kt kf
  · rename_i cnd off' x r
    cases cnd <;> cases h
    · exact lv_if_eq hx hb hdg ht kt kf
    · exact lv_if_ne hx hb hdg ht kt (fun z => kf (fun w => w z))
    · exact lv_if_lt hx hb hdg ht kt kf
    · exact lv_if_ge hx hb hdg ht kt kf
    · exact lv_if_gt hx hb hdg ht kt kf
    · exact lv_if_le hx hb hdg ht kt kf
  · cases h
end PMB
end
section
section PMC
def pm_kd (v : Value) : Nat := match v with
  | .int _ => 0
  | .long _ => 1
  | .float _ => 2
  | .double _ => 3
  | .ref _ => 4
  | _ => 5
def pm_ldi (i : Instr) : Option (Nat × Nat × Nat) := match i with
  | .iload n => some (0, n, 2)
  | .iload_n n => some (0, n.val, 1)
  | .lload n => some (1, n, 2)
  | .lload_n n => some (1, n.val, 1)
  | .fload n => some (2, n, 2)
  | .fload_n n => some (2, n.val, 1)
  | .dload n => some (3, n, 2)
  | .dload_n n => some (3, n.val, 1)
  | .aload n => some (4, n, 2)
  | .aload_n n => some (4, n.val, 1)
  | _ => none
def pm_sti (i : Instr) : Option (Nat × Nat × Nat) := match i with
  | .istore n => some (0, n, 2)
  | .istore_n n => some (0, n.val, 1)
  | .lstore n => some (1, n, 2)
  | .lstore_n n => some (1, n.val, 1)
  | .fstore n => some (2, n, 2)
  | .fstore_n n => some (2, n.val, 1)
  | .astore n => some (4, n, 2)
  | .astore_n n => some (4, n.val, 1)
  | _ => none
abbrev pm_C : Type := Nat × List (Option Value) × List Value × List pm_E
/-- code by places; field entries (pool entry, a nest mate's or not, the owner's number, the field's); constants -/
abbrev pm_I : Type := List (Nat × Instr × Nat) × List (Nat × Bool × Nat × Nat) × List (Nat × Value)
/-- it stands; a step; a step with a guard; a branch -/
abbrev pm_R : Type := Unit ⊕ pm_C ⊕ (Prop × pm_C) ⊕ (Prop × pm_C × pm_C)
def pm_find {α : Type} : List (Nat × α) → Nat → Option α
  | [], _ => none
  | a :: l, k => match Nat.beq a.1 k with
    | true => some a.2
    | false => pm_find l k
theorem pm_find_mem {α : Type} : ∀ (l : List (Nat × α)) (k : Nat) (x : α), pm_find l k = some x → (k, x) ∈ l
  | [], k, x, h => by simp [pm_find] at h
  | a :: l, k, x, h => by
    unfold pm_find at h
    split at h
    · rename_i hb
      cases h
      have hk := Nat.eq_of_beq_eq_true hb
      subst hk
      exact List.mem_cons_self
    · exact List.mem_cons_of_mem _ (pm_find_mem l k x h)
def pm_ty (ci : Nat) : Nat → FieldType := match ci with
  | 0 => tyX0
  | 1 => tyX1
  | 2 => tyX2
  | 3 => tyX3
  | 4 => tyX4
  | 5 => tyX5
  | _ => tyX6
theorem pm_ty_ok : ∀ (ci : Nat) (q : vw_C), vwCl[ci]? = some q → (∀ k, k < q.2.2 → parseFieldDescriptor (q.2.1 k).2.2.1 = some (pm_ty ci k)) ∧ ∀ a, a < q.2.2 → ∀ b, b < q.2.2 → a ≠ b → (q.2.1 a).2.1 ≠ (q.2.1 b).2.1
  | 0, q, h => by cases h; exact ⟨tyX0_ok, nmX0⟩
  | 1, q, h => by cases h; exact ⟨tyX1_ok, nmX1⟩
  | 2, q, h => by cases h; exact ⟨tyX2_ok, nmX2⟩
  | 3, q, h => by cases h; exact ⟨tyX3_ok, nmX3⟩
  | 4, q, h => by cases h; exact ⟨tyX4_ok, nmX4⟩
  | 5, q, h => by cases h; exact ⟨tyX5_ok, nmX5⟩
  | 6, q, h => by cases h; exact ⟨tyX6_ok, nmX6⟩
  | n + 7, q, h => by simp [vwCl] at h
/-- a field that may be written: its type takes the value -/
def pm_fit (ci k : Nat) (v : Value) : Bool := match pm_nth vwCl ci with
  | some q => match (q.2.1 k).2.2.2 with
    | true => false
    | false => match pm_ty ci k, v with
      | .int, .int _ => true
      | .object _, .ref _ => true
      | _, _ => false
  | none => false
def pm_mem (I : pm_I) (i : Instr) (n pc : Nat) (L : List (Option Value)) (st : List Value) (w : List pm_E) : pm_R :=
  match i, st with
  | .iinc ix k, st => match pm_nth L ix with
    | some (some (.int x)) => match Nat.beq n 3 with
      | true => .inr (.inl (pc + 3, pm_s1 L ix (.int (x + pm_k k)), st, w))
      | false => .inl ()
    | _ => .inl ()
  | .goto off, st => match Nat.beq n 3 && decide (0 ≤ (pc : Int) + off) with
    | true => .inr (.inl (((pc : Int) + off).toNat, L, st, w))
    | false => .inl ()
  | .getfield ix, .ref h :: r => match pm_find I.2.1 ix, pm_nth w h with
    | some (_, ci, k), some (.inr (cj, fs)) => match Nat.beq n 3 && Nat.beq ci cj, pm_nth fs k with
      | true, some v => .inr (.inl (pc + 3, L, v :: r, w))
      | _, _ => .inl ()
    | _, _ => .inl ()
  | .putfield ix, v :: .ref h :: r => match pm_find I.2.1 ix, pm_nth w h with
    | some (_, ci, k), some (.inr (cj, fs)) => match Nat.beq n 3 && Nat.beq ci cj && pm_fit ci k v && Nat.blt k fs.length with
      | true => .inr (.inl (pc + 3, L, r, w.set h (.inr (cj, fs.set k v))))
      | false => .inl ()
    | _, _ => .inl ()
  | .ldc ix, st => match pm_find I.2.2 ix with
    | some (.int x) => match Nat.beq n 2 with
      | true => .inr (.inl (pc + 2, L, .int x :: st, w))
      | false => .inl ()
    | some (.float x) => match Nat.beq n 2 with
      | true => .inr (.inl (pc + 2, L, .float x :: st, w))
      | false => .inl ()
    | _ => .inl ()
  | .ldc_w ix, st => match pm_find I.2.2 ix with
    | some (.int x) => match Nat.beq n 3 with
      | true => .inr (.inl (pc + 3, L, .int x :: st, w))
      | false => .inl ()
    | _ => .inl ()
  | .arraylength, .ref h :: r => match pm_nth w h with
    | some (.inl (_, N, _)) => match Nat.beq n 1 with
      | true => .inr (.inl (pc + 1, L, .int (nI N) :: r, w))
      | false => .inl ()
    | _ => .inl ()
  | .ldc2_w ix, st => match pm_find I.2.2 ix with
    | some (.long x) => match Nat.beq n 3 with
      | true => .inr (.inl (pc + 3, L, .long x :: st, w))
      | false => .inl ()
    | _ => .inl ()
  | .iaload, .int x :: .ref h :: r => match pm_nth w h with
    | some (.inl (.int, N, .inl f)) => match Nat.beq n 1 with
      | true => .inr (.inr (.inl (vp_in x N, pc + 1, L, .int (f x.toNatClampNeg) :: r, w)))
      | false => .inl ()
    | _ => .inl ()
  | .laload, .int x :: .ref h :: r => match pm_nth w h with
    | some (.inl (.long, N, .inr (.inl f))) => match Nat.beq n 1 with
      | true => .inr (.inr (.inl (vp_in x N, pc + 1, L, .long (f x.toNatClampNeg) :: r, w)))
      | false => .inl ()
    | _ => .inl ()
  | .caload, .int x :: .ref h :: r => match pm_nth w h with
    | some (.inl (.char, N, .inl f)) => match Nat.beq n 1 with
      | true => .inr (.inr (.inl (vp_in x N, pc + 1, L, .int (f x.toNatClampNeg) :: r, w)))
      | false => .inl ()
    | _ => .inl ()
  | .baload, .int x :: .ref h :: r => match pm_nth w h with
    | some (.inl (.boolean, N, .inl f)) => match Nat.beq n 1 with
      | true => .inr (.inr (.inl (vp_in x N, pc + 1, L, .int (f x.toNatClampNeg) :: r, w)))
      | false => .inl ()
    | _ => .inl ()
  | .daload, .int x :: .ref h :: r => match pm_nth w h with
    | some (.inl (.double, N, .inr (.inr (.inr (.inl f))))) => match Nat.beq n 1 with
      | true => .inr (.inr (.inl (vp_in x N, pc + 1, L, .double (f x.toNatClampNeg) :: r, w)))
      | false => .inl ()
    | _ => .inl ()
  | .iastore, .int v :: .int x :: .ref h :: r => match pm_nth w h with
    | some (.inl (.int, N, .inl f)) => match Nat.beq n 1 with
      | true => .inr (.inr (.inl (vp_in x N, pc + 1, L, r, w.set h (.inl (.int, N, .inl (upd f x.toNatClampNeg v))))))
      | false => .inl ()
    | _ => .inl ()
  | .lastore, .long v :: .int x :: .ref h :: r => match pm_nth w h with
    | some (.inl (.long, N, .inr (.inl f))) => match Nat.beq n 1 with
      | true => .inr (.inr (.inl (vp_in x N, pc + 1, L, r, w.set h (.inl (.long, N, .inr (.inl (vp_updL f x.toNatClampNeg v)))))))
      | false => .inl ()
    | _ => .inl ()
  | .castore, .int v :: .int x :: .ref h :: r => match pm_nth w h with
    | some (.inl (.char, N, .inl f)) => match Nat.beq n 1 with
      | true => .inr (.inr (.inl (vp_in x N, pc + 1, L, r, w.set h (.inl (.char, N, .inl (upd f x.toNatClampNeg (vp_nar .char v)))))))
      | false => .inl ()
    | _ => .inl ()
  | .bastore, .int v :: .int x :: .ref h :: r => match pm_nth w h with
    | some (.inl (.boolean, N, .inl f)) => match Nat.beq n 1 with
      | true => .inr (.inr (.inl (vp_in x N, pc + 1, L, r, w.set h (.inl (.boolean, N, .inl (upd f x.toNatClampNeg (vp_nar .boolean v)))))))
      | false => .inl ()
    | _ => .inl ()
  | .dastore, .double v :: .int x :: .ref h :: r => match pm_nth w h with
    | some (.inl (.double, N, .inr (.inr (.inr (.inl f))))) => match Nat.beq n 1 with
      | true => .inr (.inr (.inl (vp_in x N, pc + 1, L, r, w.set h (.inl (.double, N, .inr (.inr (.inr (.inl (vf_upd f x.toNatClampNeg v)))))))))
      | false => .inl ()
    | _ => .inl ()
  | _, _ => .inl ()
def pm_go (n k pc : Nat) (L : List (Option Value)) (st' : List Value) (w : List pm_E) : pm_R := match Nat.beq k n with
  | true => .inr (.inl (pc + n, L, st', w))
  | false => .inl ()
def pm_do (I : pm_I) (C : pm_C) : pm_R :=
  match C with
  | (pc, L, st, w) => match pm_find I.1 pc with
    | none => .inl ()
    | some (i, n) => match pm_ldi i with
      | some (kd, ix, len) => match pm_nth L ix with
        | some (some v) => match Nat.beq len n && Nat.beq (pm_kd v) kd with
          | true => .inr (.inl (pc + n, L, v :: st, w))
          | false => .inl ()
        | _ => .inl ()
      | none => match pm_sti i with
        | some (kd, ix, len) => match st with
          | v :: r => match Nat.beq len n && Nat.beq (pm_kd v) kd && Nat.ble (ix + v.category) L.length with
            | true => match Nat.beq v.category 1 with
              | true => .inr (.inl (pc + n, pm_s1 L ix v, r, w))
              | false => .inr (.inl (pc + n, pm_s2 L ix v, r, w))
            | false => .inl ()
          | [] => .inl ()
        | none => match pm_stk i st with
          | some (k, st') => pm_go n k pc L st' w
          | none => match pm_stk2 i st with
            | some (k, st') => pm_go n k pc L st' w
            | none => match pm_gst i st with
              | some (g, k, st') => match Nat.beq k n with
                | true => .inr (.inr (.inl (g, pc + n, L, st', w)))
                | false => .inl ()
              | none => match pm_br i st with
                | some (q, off, st') => match Nat.beq n 3 && decide (0 ≤ (pc : Int) + off) with
                  | true => .inr (.inr (.inr (q, (((pc : Int) + off).toNat, L, st', w), (pc + 3, L, st', w))))
                  | false => .inl ()
                | none => pm_mem I i n pc L st w
def pm_at (stops : List Nat) (K : pm_C → Prop) (f : pm_C → Prop) (C : pm_C) : Prop := match stops.contains C.1 with
  | true => K C
  | false => f C
/-- what a stretch asks, with K where it stands, or comes to a stop -/
def pm_wp (I : pm_I) (stops : List Nat) (K : pm_C → Prop) : Nat → pm_C → Prop
  | 0, C => K C
  | n + 1, C => match pm_do I C with
    | .inl _ => K C
    | .inr (.inl C') => pm_at stops K (pm_wp I stops K n) C'
    | .inr (.inr (.inl (g, C'))) => g ∧ pm_at stops K (pm_wp I stops K n) C'
    | .inr (.inr (.inr (q, A, B))) => (q → pm_at stops K (pm_wp I stops K n) A) ∧ (¬ q → pm_at stops K (pm_wp I stops K n) B)
def pm_fok (s : State) (args : Array Value) (own : String) (x : Nat × Bool × Nat × Nat) : Prop := ∃ q : vw_C, vwCl[x.2.2.1]? = some q ∧ x.2.2.2 < q.2.2 ∧
  (((Cond.fieldLink own x.1 (q.2.1 x.2.2.2).1 (q.2.1 x.2.2.2).2.1 (q.2.1 x.2.2.2).2.2.1).before args s = true) ∨ ∃ host, (Cond.fieldLinkNest own x.1 (q.2.1 x.2.2.2).1 (q.2.1 x.2.2.2).2.1 (q.2.1 x.2.2.2).2.2.1 host).before args s = true)
def pm_cok (s : State) (args : Array Value) (own : String) (x : Nat × Value) : Prop := match x.2 with
  | .int v => (Cond.constant own x.1 v).before args s = true
  | .float v => (Cond.constantFloat own x.1 v).before args s = true
  | .long v => (Cond.constantLong own x.1 v).before args s = true
  | _ => False
/-- what holds throughout a body -/
def pm_X (p : Program) (s : State) (m : MethodId) (args : Array Value) (c : Code) (cc : ByteArray) (own : String) (Ts : List Cond) (I : pm_I) : Prop :=
  p.tables.exec = Jvm.exec ∧ c.code = cc ∧ s.vm.findClass own = some m.cls ∧ (∀ w ∈ Ts, w.before args s = true) ∧ (∀ (ci : Nat) (q : vw_C), vwCl[ci]? = some q → ∀ w ∈ u_ws q.1 q.2.1 q.2.2, w ∈ Ts) ∧
  (∀ x ∈ I.1, decode cc x.1 = .ok x.2) ∧ (∀ x ∈ I.2.1, pm_fok s args own x) ∧ (∀ x ∈ I.2.2, pm_cok s args own x)
def pm_W (p : Program) (l : Launch) (e : Env) (R : Room) (s : State) (m : MethodId) (args : Array Value) (below : List Frame) (meth : Method) (c : Code) (nL : Nat) (D : va_G) (A : Nat → Prop) (ad : Nat → Nat) (tI : Nat → ClassId) (cells slots : Nat) (Q : State → Prop) (C : pm_C) : Prop :=
  ∀ (H : Heap) (locs : List Loc) (ls : Array Slot), va_P D vwCl (pm_w ad tI C.2.2.2) H → va_D A (pm_w ad tI C.2.2.2) → va_S A s.heap H locs → pm_L ad nL ls C.2.1 → pm_K D vwCl tI C.2.2.2 s → W p l e R s m args below meth c H locs cells slots Q (F0 m C.1 ls (C.2.2.1.map (pm_v ad)))
variable {p : Program} {l : Launch} {e : Env} {R : Room} {s : State} {m : MethodId} {args : Array Value} {below : List Frame} {meth : Method} {c : Code} {cells slots : Nat} {Q : State → Prop} {cc : ByteArray} {ad : Nat → Nat} {tI : Nat → ClassId} {nL : Nat} {D : va_G} {A : Nat → Prop} {own : String} {Ts : List Cond} {I : pm_I}
theorem pm_ld_ok {H : Heap} {locs : List Loc} {ls : Array Slot} {pc : Nat} {rest : List Value} (hx : p.tables.exec = Jvm.exec) (hb : c.code = cc) {i : Instr} {ix len : Nat} {v : Value} (h : pm_ldi i = some (pm_kd v, ix, len)) (hl : ls[ix]? = some (.val (pm_v ad v))) (hdg : decode cc pc = .ok (i, len))
    (k : W p l e R s m args below meth c H locs cells slots Q (F0 m (pc + len) ls (pm_v ad v :: rest))) : W p l e R s m args below meth c H locs cells slots Q (F0 m pc ls rest) := by
  unfold pm_ldi at h
  split at h <;> cases v <;> cases h
  · exact lv_iload hx hb hdg hl k
  · exact lv_iload_n hx hb hdg rfl hl k
  · exact lv_lload hx hb hdg hl k
  · exact lv_lload_n hx hb hdg rfl hl k
  · exact lv_fload hx hb hdg hl k
  · exact lv_fload_n hx hb hdg rfl hl k
  · exact lv_dload hx hb hdg hl k
  · exact lv_dload_n hx hb hdg rfl hl k
  · exact lv_aload hx hb hdg hl k
  · exact lv_aload_n hx hb hdg rfl hl k
theorem pm_st_ok {H : Heap} {locs : List Loc} {ls : Array Slot} {L : List (Option Value)} {pc : Nat} {rest : List Value} (hx : p.tables.exec = Jvm.exec) (hb : c.code = cc) {i : Instr} {ix len : Nat} {v : Value} (h : pm_sti i = some (pm_kd v, ix, len)) (hL : pm_L ad nL ls L) (hn : ix + v.category ≤ nL) (hdg : decode cc pc = .ok (i, len))
    (k : ∀ ls' : Array Slot, pm_L ad nL ls' (if v.category = 1 then pm_s1 L ix v else pm_s2 L ix v) → W p l e R s m args below meth c H locs cells slots Q (F0 m (pc + len) ls' rest)) : W p l e R s m args below meth c H locs cells slots Q (F0 m pc ls (pm_v ad v :: rest)) := by
  unfold pm_sti at h
  split at h <;> cases v <;> cases h
  · exact lv_istore hx hb hdg hL.has hn rfl (fun ls' h' => k ls' (hL.s1 h'))
  · exact lv_istore_n hx hb hdg rfl hL.has hn rfl (fun ls' h' => k ls' (hL.s1 h'))
  · exact lv_lstore hx hb hdg hL.has hn rfl (fun ls' h' => k ls' (hL.s2 h'))
  · exact lv_lstore_n hx hb hdg rfl hL.has hn rfl (fun ls' h' => k ls' (hL.s2 h'))
  · exact lv_fstore hx hb hdg hL.has hn rfl (fun ls' h' => k ls' (hL.s1 h'))
  · exact lv_fstore_n hx hb hdg rfl hL.has hn rfl (fun ls' h' => k ls' (hL.s1 h'))
  · exact lv_astore hx hb hdg hL.has hn rfl (fun ls' h' => k ls' (hL.s1 h'))
  · exact lv_astore_n hx hb hdg rfl hL.has hn rfl (fun ls' h' => k ls' (hL.s1 h'))
/-- what a result of pm_do asks -/
def pm_ask (K : pm_C → Prop) (r : pm_R) (C : pm_C) : Prop := match r with
  | .inl _ => K C
  | .inr (.inl C') => K C'
  | .inr (.inr (.inl (g, C'))) => g ∧ K C'
  | .inr (.inr (.inr (q, A, B))) => (q → K A) ∧ (¬ q → K B)
theorem pm_put_ok (X : pm_X p s m args c cc own Ts I) {ix ci k h pc : Nat} {b : Bool} {L : List (Option Value)} {v : Value} {r fs : List Value} {w : List pm_E} (hf : pm_find I.2.1 ix = some (b, ci, k)) (hw : pm_nth w h = some (.inr (ci, fs))) (h6 : pm_fit ci k v = true) (h7 : Nat.blt k fs.length = true) (hdg : decode cc pc = .ok (.putfield ix, 3))
    (K : pm_W p l e R s m args below meth c nL D A ad tI cells slots Q (pc + 3, L, r, w.set h (.inr (ci, fs.set k v)))) : pm_W p l e R s m args below meth c nL D A ad tI cells slots Q (pc, L, v :: .ref h :: r, w) := by
  obtain ⟨hx, hb, hown, hts, hin, hcd, hfd, hcs⟩ := X
  rw [pm_nth_eq] at hw
  obtain ⟨⟨C9, T9, N9⟩, hq, hkN, hlink⟩ := hfd _ (pm_find_mem _ _ _ hf)
  dsimp only at hq hkN hlink
  obtain ⟨hty, hnm⟩ := pm_ty_ok _ _ hq
  dsimp only at hty hnm
  have h8 : (T9 k).2.2.2 = false ∧ narrow (pm_ty ci k) (pm_v ad v) = pm_v ad v ∧ fits (pm_ty ci k) (pm_v ad v) = true := by
    unfold pm_fit at h6
    rw [pm_nth_eq, hq] at h6
    dsimp only at h6
    split at h6
    · cases h6
    · rename_i hfin
      refine ⟨hfin, ?_⟩
      split at h6
      · rename_i ht; rw [ht]; exact ⟨rfl, rfl⟩
      · rename_i ht; rw [ht]; exact ⟨rfl, rfl⟩
      · cases h6
  intro H locs ls hP hD hS hL hK
  have key : ∀ (H1 : Heap) (locs1 : List Loc), va_P D vwCl ((pm_w ad tI w).set h (ad h, .inr (ci, (List.map (pm_v ad) fs).set k (pm_v ad v)))) H1 → va_D A ((pm_w ad tI w).set h (ad h, .inr (ci, (List.map (pm_v ad) fs).set k (pm_v ad v)))) → va_S A s.heap H1 locs1 → W p l e R s m args below meth c H1 locs1 cells slots Q (F0 m (pc + 3) ls (List.map (pm_v ad) r)) := fun H1 locs1 a1 a2 a3 => by
    rw [← List.map_set] at a1 a2
    exact K H1 locs1 ls (by rw [pm_w_set]; exact a1) (by rw [pm_w_set]; exact a2) a3 hL hK.setO
  have hlen : k < (List.map (pm_v ad) fs).length := by rw [List.length_map]; exact Nat.blt_eq.mp h7
  rcases hlink with hlink | ⟨host, hlink⟩
  · exact va_put hx hb hts (hin _ _ hq) (pm_ty ci) hty hnm hown hK.obj hP hD hS h (pm_w_get hw) hq k hkN hlink (fun _ z => z) h8.1 (hty _ hkN) h8.2.1 h8.2.2 hlen hdg key
  · exact va_putN hx hb hts (hin _ _ hq) (pm_ty ci) hty hnm hown hK.obj hP hD hS h (pm_w_get hw) hq k hkN hlink (fun _ z => z) h8.1 (hty _ hkN) h8.2.1 h8.2.2 hlen hdg key
set_option maxHeartbeats 2000000 in
theorem pm_mem_ok (X : pm_X p s m args c cc own Ts I) {i : Instr} {n pc : Nat} {L : List (Option Value)} {st : List Value} {w : List pm_E} (hdg : decode cc pc = .ok (i, n))
    (h : pm_ask (pm_W p l e R s m args below meth c nL D A ad tI cells slots Q) (pm_mem I i n pc L st w) (pc, L, st, w)) : pm_W p l e R s m args below meth c nL D A ad tI cells slots Q (pc, L, st, w) := by
  obtain ⟨hx, hb, hown, hts, hin, hcd, hfd, hcs⟩ := X
  unfold pm_mem at h
  split at h
  · -- iinc
    split at h
    · rename_i hl
      split at h
      · rename_i h3
        have h3 := Nat.eq_of_beq_eq_true h3
        subst h3
        intro H locs ls hP hD hS hL hK
        rw [pm_nth_eq] at hl
        have hm := pm_lv_mem (ad := ad) |>.mpr ⟨_, hl, rfl⟩
        obtain ⟨k0, hk0⟩ := List.getElem?_of_mem hm
        exact lv_iinc hx hb hdg hL.has hk0 (by rw [pm_k_eq]) (by rw [← hL.1]; exact (List.getElem?_eq_some_iff.mp hl).1) rfl (fun ls' h' => h H locs ls' hP hD hS (hL.s1 (v := .int _) h') hK)
      · exact h
    · exact h
  · -- goto
    split at h
    · rename_i h3
      simp only [Bool.and_eq_true, decide_eq_true_eq] at h3
      have h4 := Nat.eq_of_beq_eq_true h3.1
      subst h4
      intro H locs ls hP hD hS hL hK
      exact lv_goto hx hb hdg (Int.toNat_of_nonneg h3.2).symm (h H locs ls hP hD hS hL hK)
    · exact h
  · -- getfield
    split at h
    · rename_i hf hw
      split at h
      · rename_i h3 hv
        simp only [Bool.and_eq_true] at h3
        have h4 := Nat.eq_of_beq_eq_true h3.1
        have h5 := Nat.eq_of_beq_eq_true h3.2
        subst h4; subst h5
        rw [pm_nth_eq] at hw hv
        obtain ⟨⟨C9, T9, N9⟩, hq, hkN, hlink⟩ := hfd _ (pm_find_mem _ _ _ hf)
        intro H locs ls hP hD hS hL hK
        have hv' := by
          have := congrArg (Option.map (pm_v ad)) hv
          rwa [← List.getElem?_map] at this
        rcases hlink with hlink | ⟨host, hlink⟩
        · exact va_get hx hb hts (hin _ _ hq) hown hK.obj hP _ (pm_w_get hw) hq _ hkN hlink (fun _ z => z) hv' hdg (h H locs ls hP hD hS hL hK)
        · exact va_getN hx hb hts (hin _ _ hq) hown hK.obj hP _ (pm_w_get hw) hq _ hkN hlink (fun _ z => z) hv' hdg (h H locs ls hP hD hS hL hK)
      · exact h
    · exact h
  · -- putfield
    split at h
    · rename_i hf hw
      split at h
      · rename_i h3
        simp only [Bool.and_eq_true] at h3
        obtain ⟨⟨⟨h4, h5⟩, h6⟩, h7⟩ := h3
        have h4 := Nat.eq_of_beq_eq_true h4
        have h5 := Nat.eq_of_beq_eq_true h5
        subst h4; subst h5
        exact pm_put_ok ⟨hx, hb, hown, hts, hin, hcd, hfd, hcs⟩ hf hw h6 h7 hdg h
      · exact h
    · exact h
  · -- ldc
    split at h
    · rename_i hc
      split at h
      · rename_i h3
        have h3 := Nat.eq_of_beq_eq_true h3
        subst h3
        intro H locs ls hP hD hS hL hK
        exact lv_ldc hx hb hown (hcs _ (pm_find_mem _ _ _ hc)) hdg (h H locs ls hP hD hS hL hK)
      · exact h
    · rename_i hc
      split at h
      · rename_i h3
        have h3 := Nat.eq_of_beq_eq_true h3
        subst h3
        intro H locs ls hP hD hS hL hK
        exact lv_ldcf hx hb hown (hcs _ (pm_find_mem _ _ _ hc)) hdg (h H locs ls hP hD hS hL hK)
      · exact h
    · exact h
  · -- ldc_w
    split at h
    · rename_i hc
      split at h
      · rename_i h3
        have h3 := Nat.eq_of_beq_eq_true h3
        subst h3
        intro H locs ls hP hD hS hL hK
        exact lv_ldcw hx hb hown (hcs _ (pm_find_mem _ _ _ hc)) hdg (h H locs ls hP hD hS hL hK)
      · exact h
    · exact h
  · -- arraylength
    split at h
    · rename_i hw
      split at h
      · rename_i h3
        have h3 := Nat.eq_of_beq_eq_true h3
        subst h3
        rw [pm_nth_eq] at hw
        intro H locs ls hP hD hS hL hK
        exact va_alen hx hb (hK.at hw) hP _ 0 (pm_w_get hw) rfl rfl hdg (h H locs ls hP hD hS hL hK)
      · exact h
    · exact h
  · -- ldc2_w
    split at h
    · rename_i hc
      split at h
      · rename_i h3
        have h3 := Nat.eq_of_beq_eq_true h3
        subst h3
        intro H locs ls hP hD hS hL hK
        exact lv_ldc2 hx hb hown (hcs _ (pm_find_mem _ _ _ hc)) hdg (h H locs ls hP hD hS hL hK)
      · exact h
    · exact h
  · -- iaload
    split at h
    · rename_i hw
      split at h
      · rename_i h3
        have h3 := Nat.eq_of_beq_eq_true h3
        subst h3
        rw [pm_nth_eq] at hw
        intro H locs ls hP hD hS hL hK
        exact va_iald hx hb (hK.at hw) hP _ 0 (pm_w_get hw) rfl h.1 hdg (h.2 H locs ls hP hD hS hL hK)
      · exact h
    · exact h
  · -- laload
    split at h
    · rename_i hw
      split at h
      · rename_i h3
        have h3 := Nat.eq_of_beq_eq_true h3
        subst h3
        rw [pm_nth_eq] at hw
        intro H locs ls hP hD hS hL hK
        exact va_lald hx hb (hK.at hw) hP _ 0 (pm_w_get hw) rfl h.1 hdg (h.2 H locs ls hP hD hS hL hK)
      · exact h
    · exact h
  · -- caload
    split at h
    · rename_i hw
      split at h
      · rename_i h3
        have h3 := Nat.eq_of_beq_eq_true h3
        subst h3
        rw [pm_nth_eq] at hw
        intro H locs ls hP hD hS hL hK
        exact va_cald hx hb (hK.at hw) hP _ 0 (pm_w_get hw) rfl h.1 hdg (h.2 H locs ls hP hD hS hL hK)
      · exact h
    · exact h
  · -- baload
    split at h
    · rename_i hw
      split at h
      · rename_i h3
        have h3 := Nat.eq_of_beq_eq_true h3
        subst h3
        rw [pm_nth_eq] at hw
        intro H locs ls hP hD hS hL hK
        exact va_zald hx hb (hK.at hw) hP _ 0 (pm_w_get hw) rfl h.1 hdg (h.2 H locs ls hP hD hS hL hK)
      · exact h
    · exact h
  · -- daload
    split at h
    · rename_i hw
      split at h
      · rename_i h3
        have h3 := Nat.eq_of_beq_eq_true h3
        subst h3
        rw [pm_nth_eq] at hw
        intro H locs ls hP hD hS hL hK
        exact va_dald hx hb (hK.at hw) hP _ 0 (pm_w_get hw) rfl h.1 hdg (h.2 H locs ls hP hD hS hL hK)
      · exact h
    · exact h
  · -- iastore
    split at h
    · rename_i hw
      split at h
      · rename_i h3
        have h3 := Nat.eq_of_beq_eq_true h3
        subst h3
        rw [pm_nth_eq] at hw
        intro H locs ls hP hD hS hL hK
        exact va_iast hx hb (hK.at hw) hP hD hS _ 0 (pm_w_get hw) rfl h.1 hdg (fun H1 locs1 a1 a2 a3 => h.2 H1 locs1 ls (by rw [pm_w_set]; exact a1) (by rw [pm_w_set]; exact a2) a3 hL (hK.setA hw))
      · exact h
    · exact h
  · -- lastore
    split at h
    · rename_i hw
      split at h
      · rename_i h3
        have h3 := Nat.eq_of_beq_eq_true h3
        subst h3
        rw [pm_nth_eq] at hw
        intro H locs ls hP hD hS hL hK
        exact va_last hx hb (hK.at hw) hP hD hS _ 0 (pm_w_get hw) rfl h.1 hdg (fun H1 locs1 a1 a2 a3 => h.2 H1 locs1 ls (by rw [pm_w_set]; exact a1) (by rw [pm_w_set]; exact a2) a3 hL (hK.setA hw))
      · exact h
    · exact h
  · -- castore
    split at h
    · rename_i hw
      split at h
      · rename_i h3
        have h3 := Nat.eq_of_beq_eq_true h3
        subst h3
        rw [pm_nth_eq] at hw
        intro H locs ls hP hD hS hL hK
        exact va_cast hx hb (hK.at hw) hP hD hS _ 0 (pm_w_get hw) rfl h.1 hdg (fun H1 locs1 a1 a2 a3 => h.2 H1 locs1 ls (by rw [pm_w_set]; exact a1) (by rw [pm_w_set]; exact a2) a3 hL (hK.setA hw))
      · exact h
    · exact h
  · -- bastore
    split at h
    · rename_i hw
      split at h
      · rename_i h3
        have h3 := Nat.eq_of_beq_eq_true h3
        subst h3
        rw [pm_nth_eq] at hw
        intro H locs ls hP hD hS hL hK
        exact va_zast hx hb (hK.at hw) hP hD hS _ 0 (pm_w_get hw) rfl h.1 hdg (fun H1 locs1 a1 a2 a3 => h.2 H1 locs1 ls (by rw [pm_w_set]; exact a1) (by rw [pm_w_set]; exact a2) a3 hL (hK.setA hw))
      · exact h
    · exact h
  · -- dastore
    split at h
    · rename_i hw
      split at h
      · rename_i h3
        have h3 := Nat.eq_of_beq_eq_true h3
        subst h3
        rw [pm_nth_eq] at hw
        intro H locs ls hP hD hS hL hK
        exact va_dast hx hb (hK.at hw) hP hD hS _ 0 (pm_w_get hw) rfl h.1 hdg (fun H1 locs1 a1 a2 a3 => h.2 H1 locs1 ls (by rw [pm_w_set]; exact a1) (by rw [pm_w_set]; exact a2) a3 hL (hK.setA hw))
      · exact h
    · exact h
  · exact h
end PMC
end
section
section PMD
variable {p : Program} {l : Launch} {e : Env} {R : Room} {s : State} {m : MethodId} {args : Array Value} {below : List Frame} {meth : Method} {c : Code} {cells slots : Nat} {Q : State → Prop} {cc : ByteArray} {ad : Nat → Nat} {tI : Nat → ClassId} {nL : Nat} {D : va_G} {A : Nat → Prop} {own : String} {Ts : List Cond} {I : pm_I}
theorem pm_X.dec (X : pm_X p s m args c cc own Ts I) {pc n : Nat} {i : Instr} (h : pm_find I.1 pc = some (i, n)) : decode cc pc = .ok (i, n) := X.2.2.2.2.2.1 (pc, i, n) (pm_find_mem _ _ _ h)
set_option maxHeartbeats 1000000 in
theorem pm_do_ok (X : pm_X p s m args c cc own Ts I) (C : pm_C) (h : pm_ask (pm_W p l e R s m args below meth c nL D A ad tI cells slots Q) (pm_do I C) C) : pm_W p l e R s m args below meth c nL D A ad tI cells slots Q C := by
  obtain ⟨pc, L, st, w⟩ := C
  have hx := X.1
  have hb := X.2.1
  unfold pm_do at h
  dsimp only at h
  split at h
  · exact h
  · rename_i i n hf
    have hdg : decode cc pc = .ok (i, n) := X.dec hf
    split at h
    · rename_i kd ix len hld
      split at h
      · rename_i v hv
        split at h
        · rename_i hq
          simp only [Bool.and_eq_true] at hq
          have h1 := Nat.eq_of_beq_eq_true hq.1
          have h2 := Nat.eq_of_beq_eq_true hq.2
          subst h1; subst h2
          rw [pm_nth_eq] at hv
          intro H locs ls hP hD hS hL hK
          exact pm_ld_ok hx hb hld (hL.2.2.2 _ _ hv) hdg (h H locs ls hP hD hS hL hK)
        · exact h
      · exact h
    · split at h
      · rename_i kd ix len hst
        split at h
        · rename_i v r
          split at h
          · rename_i hq
            simp only [Bool.and_eq_true] at hq
            have h1 := Nat.eq_of_beq_eq_true hq.1.1
            have h2 := Nat.eq_of_beq_eq_true hq.1.2
            have h3 := Nat.le_of_ble_eq_true hq.2
            subst h1; subst h2
            split at h
            · rename_i hc
              have hc := Nat.eq_of_beq_eq_true hc
              intro H locs ls hP hD hS hL hK
              refine pm_st_ok hx hb hst hL (by rw [← hL.1]; exact h3) hdg (fun ls' h' => ?_)
              rw [if_pos hc] at h'
              exact h H locs ls' hP hD hS h' hK
            · rename_i hc
              have hc : ¬ v.category = 1 := fun z => by rw [z] at hc; cases hc
              intro H locs ls hP hD hS hL hK
              refine pm_st_ok hx hb hst hL (by rw [← hL.1]; exact h3) hdg (fun ls' h' => ?_)
              rw [if_neg hc] at h'
              exact h H locs ls' hP hD hS h' hK
          · exact h
        · exact h
      · split at h
        · rename_i k st' hk
          unfold pm_go at h
          split at h
          · rename_i hq
            have h1 := Nat.eq_of_beq_eq_true hq
            subst h1
            intro H locs ls hP hD hS hL hK
            exact pm_stk_ok hx hb hk hdg (h H locs ls hP hD hS hL hK)
          · exact h
        · split at h
          · rename_i k st' hk
            unfold pm_go at h
            split at h
            · rename_i hq
              have h1 := Nat.eq_of_beq_eq_true hq
              subst h1
              intro H locs ls hP hD hS hL hK
              exact pm_stk2_ok hx hb hk hdg (h H locs ls hP hD hS hL hK)
            · exact h
          · split at h
            · rename_i g k st' hk
              split at h
              · rename_i hq
                have h1 := Nat.eq_of_beq_eq_true hq
                subst h1
                intro H locs ls hP hD hS hL hK
                exact pm_gst_ok hx hb hk h.1 hdg (h.2 H locs ls hP hD hS hL hK)
              · exact h
            · split at h
              · rename_i q off st' hk
                split at h
                · rename_i hq
                  simp only [Bool.and_eq_true, decide_eq_true_eq] at hq
                  have h1 := Nat.eq_of_beq_eq_true hq.1
                  subst h1
                  intro H locs ls hP hD hS hL hK
                  exact pm_br_ok hx hb hk (Int.toNat_of_nonneg hq.2).symm hdg (fun z => h.1 z H locs ls hP hD hS hL hK) (fun z => h.2 z H locs ls hP hD hS hL hK)
                · exact h
              · exact pm_mem_ok X hdg h
theorem pm_wp_ok (X : pm_X p s m args c cc own Ts I) (stops : List Nat) : ∀ (n : Nat) (C : pm_C), pm_wp I stops (pm_W p l e R s m args below meth c nL D A ad tI cells slots Q) n C → pm_W p l e R s m args below meth c nL D A ad tI cells slots Q C
  | 0, C, h => h
  | n + 1, C, h => by
    have at' : ∀ C', pm_at stops (pm_W p l e R s m args below meth c nL D A ad tI cells slots Q) (pm_wp I stops (pm_W p l e R s m args below meth c nL D A ad tI cells slots Q) n) C' → pm_W p l e R s m args below meth c nL D A ad tI cells slots Q C' := fun C' h' => by
      unfold pm_at at h'
      split at h'
      · exact h'
      · exact pm_wp_ok X stops n C' h'
    refine pm_do_ok X C ?_
    unfold pm_wp at h
    unfold pm_ask
    split at h
    · exact h
    · exact at' _ h
    · exact ⟨h.1, at' _ h.2⟩
    · exact ⟨fun z => at' _ (h.1 z), fun z => at' _ (h.2 z)⟩
/-! what is carried besides the world -/
def pm_tb : List Cond := lw_tbl.filter goodWord
def pm_kind (w : Cond) : Bool := match w with
  | .castable _ _ => true
  | .declares _ => true
  | .fieldLinkNest _ _ _ _ _ _ => true
  | .methodLinkNest _ _ _ _ => true
  | _ => false
def pm_ng : List Cond := lw_tbl.filter pm_kind
def pm_strs : List (String × Nat × String) := [(RX5, 102, "a weight is 1 to 9"), (RX5, 131, "fewer than three kinds"), (RX5, 140, "no such tree was found"), (RX5, 182, "above is 0.5 to 1"), (RX5, 188, "no such tree"), (RX5, 190, "no such character"), (RX5, 192, "nothing is found"), (RX5, 56, "the text is full"), (RX5, 89, "no such kind or character")]
def pm_ncs : List (String × String) := [("java/lang/IllegalArgumentException", "java/lang/IndexOutOfBoundsException"), ("java/lang/IllegalArgumentException", "java/lang/IllegalStateException")]
def pm_G (A : Nat → Prop) (U : State) (H : Heap) : Prop := (∀ w ∈ pm_ng, va_Nw w U) ∧ (∃ sa : Nat → Nat, ∀ q ∈ pm_strs, vk_R q.1 q.2.1 q.2.2 (sa q.2.1) U) ∧ (∀ q ∈ pm_ncs, va_Nc q.1 q.2 U) ∧ vx_Zq Bundle.tN "UNASSIGNED_STACK" Bundle.steD A U H ∧ vx_Zq Bundle.tN "SUPPRESSED_SENTINEL" Bundle.listD A U H
theorem pm_Nw.warm {s U : State} (hW : s.WarmedH U.vm) {w : Cond} (hk : pm_kind w = true) (h : va_Nw w s) : va_Nw w U := by
  unfold pm_kind at hk
  split at hk
  · exact va_Nw.warmC hW h
  · exact va_Nw.warmD hW h
  · exact va_Nw.warmF hW h
  · exact va_Nw.warmM hW h
  · cases hk
theorem pm_G.warm {A B : Nat → Prop} {s U : State} (h : pm_G A s s.heap) (hW : s.WarmedH U.vm) (hS : ∀ q : Nat, q < s.heap.size → ¬ A q → U.heap[q]? = s.heap[q]?) (hAB : ∀ q, B q → A q) : pm_G B U U.heap := by
  obtain ⟨h1, ⟨sa, h2⟩, h3, h4, h5⟩ := h
  refine ⟨fun w hw => pm_Nw.warm hW (List.mem_filter.mp hw).2 (h1 w hw), ⟨sa, fun q hq => vk_R.warm hW (h2 q hq)⟩, fun q hq => ?_, ?_, ?_⟩
  · obtain ⟨a, b, g1, g2, g3⟩ := h3 q hq
    exact ⟨a, b, by rw [hW.alike.findClass]; exact g1, by rw [hW.alike.findClass]; exact g2, by rw [hW.alike.assignable]; exact g3⟩
  · exact ((h4.kept hS).moved hW.alike).narrow hAB
  · exact ((h5.kept hS).moved hW.alike).narrow hAB
theorem pm_G.calling {A : Nat → Prop} {U : State} (h : pm_G A U U.heap) (g : JFrame) (mk : MethodId) (a : Array Value) : pm_G A (U.calling g mk a) (U.calling g mk a).heap :=
  h.warm (U := U.calling g mk a) (State.WarmedH.refl U) (fun _ _ _ => rfl) (fun _ z => z)
def pm_A (ad : Nat → Nat) (n sz : Nat) : Nat → Prop := fun q => (∃ k, k < n ∧ q = ad k) ∨ sz ≤ q
def pm_inj (ad : Nat → Nat) (n : Nat) : Prop := ∀ i j, i < n → j < n → ad i = ad j → i = j
theorem pm_D {ad : Nat → Nat} {tI : Nat → ClassId} {w : List pm_E} {A : Nat → Prop} (hi : pm_inj ad w.length) (hA : ∀ k, k < w.length → A (ad k)) : va_D A (pm_w ad tI w) := by
  have key : ∀ (k : Nat) (q : Nat × va_E), (pm_w ad tI w)[k]? = some q → k < w.length ∧ q.1 = ad k := by
    intro k q hk
    have hl := (List.getElem?_eq_some_iff.mp hk).1
    rw [pm_w_len] at hl
    rw [pm_w_get (List.getElem?_eq_getElem hl)] at hk
    cases hk
    exact ⟨hl, rfl⟩
  refine ⟨fun i j x y hx hy hxy => ?_, fun k q hk => ?_⟩
  · obtain ⟨a1, a2⟩ := key i x hx
    obtain ⟨b1, b2⟩ := key j y hy
    exact hi i j a1 b1 (by rw [← a2, ← b2, hxy])
  · obtain ⟨a1, a2⟩ := key k q hk
    rw [a2]
    exact hA k a1
theorem pm_D.inj {ad : Nat → Nat} {tI : Nat → ClassId} {w : List pm_E} {A : Nat → Prop} (h : va_D A (pm_w ad tI w)) : pm_inj ad w.length := fun i j hi hj hij =>
  h.1 i j _ _ (pm_w_get (List.getElem?_eq_getElem hi)) (pm_w_get (List.getElem?_eq_getElem hj)) hij
/-- returned, or thrown -/
abbrev pm_O : Type := Option Value ⊕ String
def pm_end (D : va_G) (ad : Nat → Nat) (tI : Nat → ClassId) (n sz : Nat) (O : pm_O → List pm_E → Prop) (o : pm_O) (st t : State) : Prop := ∃ w', O o w' ∧ w'.length = n ∧ va_P D vwCl (pm_w ad tI w') t.heap ∧ pm_K D vwCl tI w' t ∧ va_F (pm_A ad n sz) st t
def pm_Pc (D : va_G) (ad : Nat → Nat) (tI : Nat → ClassId) (sz : Nat) (As : List Value) (w : List pm_E) : Array Value → State → Prop := va_Pc (As.map (pm_v ad)) (fun U => U.heap.size = sz ∧ va_P D vwCl (pm_w ad tI w) U.heap ∧ pm_K D vwCl tI w U ∧ pm_inj ad w.length ∧ pm_G (pm_A ad w.length sz) U U.heap)
def pm_Qc (D : va_G) (ad : Nat → Nat) (tI : Nat → ClassId) (n sz : Nat) (O : pm_O → List pm_E → Prop) : Array Value → State → Outcome → State → Prop := fun _ st oc t => ∃ v, oc = .returned (v.map (pm_v ad)) ∧ pm_end D ad tI n sz O (.inl v) st t
def pm_XC (D : va_G) (ad : Nat → Nat) (tI : Nat → ClassId) (n sz : Nat) (O : pm_O → List pm_E → Prop) : String → State → State → Prop := fun E st t => pm_end D ad tI n sz O (.inr E) st t
/-- name, code, locals, answer, own -/
abbrev pm_M : Type := MethodName × ByteArray × Nat × Option FieldType × String
def pm_ws (M : pm_M) : List Cond := Cond.code M.1 M.2.1 M.2.2.1 M.2.2.2.1 :: pm_tb
abbrev pm_rm (d mc ms : Nat) : Room := { frames := d, cells := mc, slots := ms, locals := 100 * d }
def pm_Met (l : Launch) (M : pm_M) (d mc ms : Nat) (As : List Value) (w : List pm_E) (O : pm_O → List pm_E → Prop) : Prop :=
  ∀ (D : va_G) (ad : Nat → Nat) (tI : Nat → ClassId) (sz : Nat), vx_Met l M.1 (pm_ws M) (pm_rm d mc ms) (pm_Pc D ad tI sz As w) (pm_Qc D ad tI w.length sz O) (pm_XC D ad tI w.length sz O) mc ms (pm_A ad w.length sz)
def pm_ctx (l : Launch) (M : pm_M) (I : pm_I) (n : Nat) (p : Program) (s : State) (m : MethodId) (args : Array Value) (meth : Method) (c : Code) (ad : Nat → Nat) : Prop :=
  pm_X p s m args c M.2.1 M.2.2.2.2 (pm_ws M) I ∧ c.maxLocals = M.2.2.1 ∧ meth.sig.returnType = M.2.2.2.1 ∧ meth.locks = false ∧ (∀ x ∈ c.exceptionTable.toList, False) ∧ pm_G (pm_A ad n s.heap.size) s s.heap ∧ l.stackTraces = false
/-- from the place C of M's body it comes to an end with O -/
def pm_J (l : Launch) (M : pm_M) (I : pm_I) (d mc ms n : Nat) (O : pm_O → List pm_E → Prop) (cells slots : Nat) (C : pm_C) : Prop :=
  ∀ (p : Program) (e : Env) (s : State) (m : MethodId) (args : Array Value) (below : List Frame) (meth : Method) (c : Code) (D : va_G) (ad : Nat → Nat) (tI : Nat → ClassId), pm_ctx l M I n p s m args meth c ad →
    pm_W p l e (pm_rm d mc ms) s m args below meth c M.2.2.1 D (pm_A ad n s.heap.size) ad tI cells slots (vx_MQ below (pm_Qc D ad tI n s.heap.size O) (pm_XC D ad tI n s.heap.size O) args s mc ms (pm_A ad n s.heap.size)) C
variable {M : pm_M} {d mc ms n : Nat} {O : pm_O → List pm_E → Prop}
theorem pm_wp_mono {I : pm_I} {stops : List Nat} {K K' : pm_C → Prop} (hK : ∀ C, K C → K' C) : ∀ (n : Nat) (C : pm_C), pm_wp I stops K n C → pm_wp I stops K' n C
  | 0, C, h => hK C h
  | n + 1, C, h => by
    have at' : ∀ C', pm_at stops K (pm_wp I stops K n) C' → pm_at stops K' (pm_wp I stops K' n) C' := fun C' h' => by
      unfold pm_at at h' ⊢
      split
      · rename_i hq; rw [hq] at h'; exact hK _ h'
      · rename_i hq; rw [hq] at h'; exact pm_wp_mono hK n C' h'
    unfold pm_wp at h ⊢
    split
    · rename_i hq; rw [hq] at h; exact hK _ h
    · rename_i hq; rw [hq] at h; exact at' _ h
    · rename_i hq; rw [hq] at h; exact ⟨h.1, at' _ h.2⟩
    · rename_i hq; rw [hq] at h; exact ⟨fun z => at' _ (h.1 z), fun z => at' _ (h.2 z)⟩
/-- a stretch -/
theorem pm_J.go (stops : List Nat) (k : Nat) {C : pm_C} (h : pm_wp I stops (pm_J l M I d mc ms n O cells slots) k C) : pm_J l M I d mc ms n O cells slots C := fun p e s m args below meth c D ad tI X =>
  pm_wp_ok X.1 stops k C (pm_wp_mono (fun C' h' => h' p e s m args below meth c D ad tI X) k C h)
theorem pm_J.ret {pc : Nat} {L : List (Option Value)} {w : List pm_E} {v : Int32} {ty : FieldType} (hd : pm_find I.1 pc = some (.ireturn, 1)) (hr : M.2.2.2.1 = some ty) (hn : narrow ty (.int v) = .int v) (hl : w.length = n) (hc : cells ≤ mc) (hs : slots ≤ ms) (hO : O (.inl (some (.int v))) w) : pm_J l M I d mc ms n O cells slots (pc, L, [.int v], w) := by
  intro p e s m args below meth c D ad tI X H locs ls hP hD hS hL hK
  refine vx_ret (W.widen hc hs (W.zret X.1.1 X.1.2.1 (X.2.2.1.trans hr) hn (fun t ht hW => ⟨some (.int v), rfl, w, hO, hl, by rw [ht]; exact hP, hK.moved hW.alike, hS.F ht⟩) hS.2.2 (X.1.dec hd) X.2.2.2.1))
theorem pm_J.retl {pc : Nat} {L : List (Option Value)} {w : List pm_E} {v : Int64} (hd : pm_find I.1 pc = some (.lreturn, 1)) (hr : M.2.2.2.1 = some .long) (hl : w.length = n) (hc : cells ≤ mc) (hs : slots ≤ ms) (hO : O (.inl (some (.long v))) w) : pm_J l M I d mc ms n O cells slots (pc, L, [.long v], w) := by
  intro p e s m args below meth c D ad tI X H locs ls hP hD hS hL hK
  refine vx_ret (W.widen hc hs (W.lret X.1.1 X.1.2.1 (X.2.2.1.trans hr) (fun t ht hW => ⟨some (.long v), rfl, w, hO, hl, by rw [ht]; exact hP, hK.moved hW.alike, hS.F ht⟩) hS.2.2 (X.1.dec hd) X.2.2.2.1))
theorem pm_J.retf {pc : Nat} {L : List (Option Value)} {w : List pm_E} {v : UInt32} (hd : pm_find I.1 pc = some (.freturn, 1)) (hr : M.2.2.2.1 = some .float) (hl : w.length = n) (hc : cells ≤ mc) (hs : slots ≤ ms) (hO : O (.inl (some (.float v))) w) : pm_J l M I d mc ms n O cells slots (pc, L, [.float v], w) := by
  intro p e s m args below meth c D ad tI X H locs ls hP hD hS hL hK
  refine vx_ret (W.widen hc hs (W.fret X.1.1 X.1.2.1 (X.2.2.1.trans hr) (fun t ht hW => ⟨some (.float v), rfl, w, hO, hl, by rw [ht]; exact hP, hK.moved hW.alike, hS.F ht⟩) hS.2.2 (X.1.dec hd) X.2.2.2.1))
theorem pm_J.retv {pc : Nat} {L : List (Option Value)} {w : List pm_E} (hd : pm_find I.1 pc = some (.return_, 1)) (hr : M.2.2.2.1 = none) (hl : w.length = n) (hc : cells ≤ mc) (hs : slots ≤ ms) (hO : O (.inl none) w) : pm_J l M I d mc ms n O cells slots (pc, L, [], w) := by
  intro p e s m args below meth c D ad tI X H locs ls hP hD hS hL hK
  refine vx_ret (W.widen hc hs (W.vret X.1.1 X.1.2.1 (X.2.2.1.trans hr) (fun t ht hW => ⟨none, rfl, w, hO, hl, by rw [ht]; exact hP, hK.moved hW.alike, hS.F ht⟩) hS.2.2 (X.1.dec hd) X.2.2.2.1))
end PMD
end
section
section PME
theorem pm_v_comp (ad f : Nat → Nat) (v : Value) : pm_v ad (pm_v f v) = pm_v (fun k => ad (f k)) v := by cases v <;> rfl
def pm_rc (f : Nat → Nat) : pm_E → pm_E
  | .inl a => .inl a
  | .inr o => .inr (o.1, o.2.map (pm_v f))
theorem pm_c_comp (ad f : Nat → Nat) (t : ClassId) (c : pm_E) : pm_c ad t (pm_rc f c) = pm_c (fun k => ad (f k)) t c := by
  cases c with
  | inl a => rfl
  | inr o => simp [pm_c, pm_rc, pm_v_comp]
def pm_rn (q : List Nat) (k : Nat) : Nat := match pm_nth q k with
  | some h => h
  | none => 0
/-- the callee's cells back in their places -/
def pm_bk (f : Nat → Nat) : List pm_E → List Nat → List pm_E → List pm_E
  | w, h :: q, c :: cs => pm_bk f (w.set h (pm_rc f c)) q cs
  | w, _, _ => w
theorem pm_bk_len (f : Nat → Nat) : ∀ (q : List Nat) (w cs : List pm_E), (pm_bk f w q cs).length = w.length
  | [], w, cs => by simp [pm_bk]
  | h :: q, w, [] => by simp [pm_bk]
  | h :: q, w, c :: cs => by rw [pm_bk, pm_bk_len f q, List.length_set]
theorem pm_bk_out (f : Nat → Nat) {k : Nat} : ∀ (q : List Nat) (w cs : List pm_E), k ∉ q → (pm_bk f w q cs)[k]? = w[k]?
  | [], w, cs, _ => by simp [pm_bk]
  | h :: q, w, [], _ => by simp [pm_bk]
  | h :: q, w, c :: cs, hk => by
    rw [pm_bk, pm_bk_out f q _ _ (fun z => hk (List.mem_cons_of_mem _ z)), List.getElem?_set_ne (fun z => hk (by rw [z]; exact List.mem_cons_self))]
theorem pm_nd {h : Nat} {q : List Nat} (hn : va_nd (h :: q) = true) : h ∉ q ∧ va_nd q = true := by
  simpa [va_nd] using hn
theorem pm_bk_in (f : Nat → Nat) {h : Nat} {c : pm_E} : ∀ (q : List Nat) (w cs : List pm_E) (k : Nat), va_nd q = true → q[k]? = some h → cs[k]? = some c → h < w.length → (pm_bk f w q cs)[h]? = some (pm_rc f c)
  | [], w, cs, k, _, hq, _, _ => by simp at hq
  | h0 :: q, w, [], k, _, _, hc, _ => by simp at hc
  | h0 :: q, w, c0 :: cs, 0, hn, hq, hc, hl => by
    simp only [List.getElem?_cons_zero, Option.some.injEq] at hq hc
    subst hq; subst hc
    rw [pm_bk, pm_bk_out f q _ _ (pm_nd hn).1, List.getElem?_set_self hl]
  | h0 :: q, w, c0 :: cs, k + 1, hn, hq, hc, hl => by
    rw [pm_bk]
    exact pm_bk_in f q _ cs k (pm_nd hn).2 (by simpa using hq) (by simpa using hc) (by simpa using hl)
theorem pm_rn_get {q : List Nat} {k h : Nat} (hq : q[k]? = some h) : pm_rn q k = h := by
  unfold pm_rn
  rw [pm_nth_eq, hq]
variable {p : Program} {l : Launch} {e : Env} {R : Room} {s : State} {m : MethodId} {args : Array Value} {below : List Frame} {meth : Method} {c : Code} {cells slots : Nat} {cc : ByteArray} {ad : Nat → Nat} {tI : Nat → ClassId} {nL : Nat} {D : va_G} {A : Nat → Prop} {I : pm_I} {M : pm_M} {d mc ms n : Nat} {O : pm_O → List pm_E → Prop}
/-- the callee's world lies in the caller's, at the places q -/
def pm_fits (q : List Nat) (w wc : List pm_E) : Prop := va_nd q = true ∧ q.map (fun h => pm_nth w h) = wc.map (fun c => some (pm_rc (pm_rn q) c))
theorem pm_fits.at {q : List Nat} {w wc : List pm_E} (h : pm_fits q w wc) {k : Nat} {c : pm_E} (hk : wc[k]? = some c) : ∃ h', q[k]? = some h' ∧ w[h']? = some (pm_rc (pm_rn q) c) := by
  have h1 : (q.map (fun h => pm_nth w h))[k]? = some (some (pm_rc (pm_rn q) c)) := by rw [h.2, List.getElem?_map, hk]; rfl
  rw [List.getElem?_map] at h1
  cases hq : q[k]? with
  | none => rw [hq] at h1; cases h1
  | some h' =>
    rw [hq] at h1
    exact ⟨h', rfl, by rw [← pm_nth_eq]; exact Option.some.inj h1⟩
theorem pm_fits.len {q : List Nat} {w wc : List pm_E} (h : pm_fits q w wc) : q.length = wc.length := by
  have := congrArg List.length h.2
  simpa using this
theorem pm_fits.lt {q : List Nat} {w wc : List pm_E} (h : pm_fits q w wc) {k : Nat} (hk : k < wc.length) : pm_rn q k < w.length ∧ q[k]? = some (pm_rn q k) ∧ w[pm_rn q k]? = some (pm_rc (pm_rn q) wc[k]) := by
  obtain ⟨h', g1, g2⟩ := h.at (List.getElem?_eq_getElem hk)
  rw [pm_rn_get g1]
  exact ⟨(List.getElem?_eq_some_iff.mp g2).1, g1, g2⟩
theorem pm_fits.P {q : List Nat} {w wc : List pm_E} (h : pm_fits q w wc) {H : Heap} (hP : va_P D vwCl (pm_w ad tI w) H) : va_P D vwCl (pm_w (fun k => ad (pm_rn q k)) (fun k => tI (pm_rn q k)) wc) H := by
  intro k x hk
  have hl := (List.getElem?_eq_some_iff.mp hk).1
  rw [pm_w_len] at hl
  rw [pm_w_get (List.getElem?_eq_getElem hl)] at hk
  cases hk
  obtain ⟨g1, g2, g3⟩ := h.lt hl
  have := hP _ _ (pm_w_get g3)
  rw [pm_c_comp] at this
  exact this
theorem pm_fits.K {q : List Nat} {w wc : List pm_E} (h : pm_fits q w wc) {U : State} (hK : pm_K D vwCl tI w U) : pm_K D vwCl (fun k => tI (pm_rn q k)) wc U := by
  refine ⟨hK.1, fun k a hk => ?_⟩
  have hl := (List.getElem?_eq_some_iff.mp hk).1
  obtain ⟨g1, g2, g3⟩ := h.lt hl
  have e1 : wc[k] = .inl a := (List.getElem?_eq_some_iff.mp hk).2
  rw [e1] at g3
  exact hK.2 _ a g3
theorem pm_fits.inj {q : List Nat} {w wc : List pm_E} (h : pm_fits q w wc) (hi : pm_inj ad w.length) : pm_inj (fun k => ad (pm_rn q k)) wc.length := by
  intro i j hi' hj' hij
  obtain ⟨g1, g2, -⟩ := h.lt hi'
  obtain ⟨k1, k2, -⟩ := h.lt hj'
  have e := hi _ _ g1 k1 hij
  rw [e] at g2
  exact va_nd_inj q h.1 i j _ g2 k2
theorem pm_fits.fr {q : List Nat} {w wc : List pm_E} (h : pm_fits q w wc) {sz sz' : Nat} (hs : sz ≤ sz') : ∀ x, pm_A (fun k => ad (pm_rn q k)) wc.length sz' x → pm_A ad w.length sz x := by
  intro x hx
  rcases hx with ⟨k, hk, rfl⟩ | hx
  · exact Or.inl ⟨_, (h.lt hk).1, rfl⟩
  · exact Or.inr (Nat.le_trans hs hx)
/-- behind a call -/
theorem pm_fits.back {q : List Nat} {w wc w1 : List pm_E} (h : pm_fits q w wc) {H H1 : Heap} {u : State} (hP : va_P D vwCl (pm_w ad tI w) H) (hi : pm_inj ad w.length) (hl : w1.length = wc.length)
    (hP1 : va_P D vwCl (pm_w (fun k => ad (pm_rn q k)) (fun k => tI (pm_rn q k)) w1) H1) (hk : ∀ x : Nat, x < H.size → ¬ pm_A (fun k => ad (pm_rn q k)) wc.length H.size x → H1[x]? = H[x]?)
    (hK : pm_K D vwCl tI w u) (hK1 : pm_K D vwCl (fun k => tI (pm_rn q k)) w1 u) : va_P D vwCl (pm_w ad tI (pm_bk (pm_rn q) w q w1)) H1 ∧ pm_K D vwCl tI (pm_bk (pm_rn q) w q w1) u := by
  have key : ∀ k, k < w.length → (k ∉ q ∧ (pm_bk (pm_rn q) w q w1)[k]? = w[k]?) ∨ ∃ j, ∃ hj : j < w1.length, k = pm_rn q j ∧ (pm_bk (pm_rn q) w q w1)[k]? = some (pm_rc (pm_rn q) w1[j]) := by
    intro k hk'
    by_cases hm : k ∈ q
    · obtain ⟨j, hj⟩ := List.getElem?_of_mem hm
      have lj := (List.getElem?_eq_some_iff.mp hj).1
      rw [h.len, ← hl] at lj
      exact Or.inr ⟨j, lj, (pm_rn_get hj).symm, pm_bk_in _ q w w1 j h.1 hj (List.getElem?_eq_getElem lj) hk'⟩
    · exact Or.inl ⟨hm, pm_bk_out _ q w w1 hm⟩
  refine ⟨fun k x hx => ?_, hK.1, fun k a ha => ?_⟩
  · have hkl := (List.getElem?_eq_some_iff.mp hx).1
    rw [pm_w_len, pm_bk_len] at hkl
    rcases key k hkl with ⟨hm, hg⟩ | ⟨j, hj, rfl, hg⟩
    · rw [List.getElem?_eq_getElem hkl] at hg
      rw [pm_w_get hg] at hx
      cases hx
      have hat := hP _ _ (pm_w_get (List.getElem?_eq_getElem hkl))
      refine hat.kept (hk _ hat.lt (fun z => ?_))
      rcases z with ⟨j, hj, hz⟩ | z
      · obtain ⟨g1, g2, -⟩ := h.lt hj
        have := hi _ _ hkl g1 hz
        exact hm (by rw [this]; exact List.mem_of_getElem? g2)
      · exact absurd hat.lt (Nat.not_lt.mpr z)
    · rw [pm_w_get hg] at hx
      cases hx
      have hat := hP1 _ _ (pm_w_get (List.getElem?_eq_getElem hj))
      rw [pm_c_comp]
      exact hat
  · have hkl := (List.getElem?_eq_some_iff.mp ha).1
    rw [pm_bk_len] at hkl
    rcases key k hkl with ⟨hm, hg⟩ | ⟨j, hj, rfl, hg⟩
    · rw [hg] at ha
      exact hK.2 k a ha
    · rw [hg] at ha
      have e1 : w1[j] = .inl a := by
        cases hw : w1[j] with
        | inl b => rw [hw] at ha; cases ha; rfl
        | inr o => rw [hw] at ha; cases ha
      exact hK1.2 j a (by rw [List.getElem?_eq_getElem hj, e1])
theorem pm_ws_mem {M : pm_M} {w : Cond} (h : w ∈ pm_tb) : w ∈ pm_ws M := List.mem_cons_of_mem _ h
theorem pm_tb_good {w : Cond} (h : w ∈ pm_tb) : (w.onTables && w.keeps) = true ∨ ∃ ty, w = .arrayClass ty := good_of_word (List.mem_filter.mp h).2
theorem pm_good {M : pm_M} {ws : List Cond} (h : ∀ x ∈ ws, x ∈ pm_tb) : GoodIn (pm_ws M) ws := fun w hw => ⟨pm_ws_mem (h w hw), pm_tb_good (h w hw)⟩
/-- behind a call, returned or thrown: the caller goes on -/
theorem pm_after {q : List Nat} {w wc : List pm_E} (hf : pm_fits q w wc) (hn : w.length = n) {O' : pm_O → List pm_E → Prop} {o : pm_O} {H : Heap} {locs L : List Loc} {st0 t T' : State} (hst : st0.heap = H)
    (hP : va_P D vwCl (pm_w ad tI w) H) (hD : va_D (pm_A ad n s.heap.size) (pm_w ad tI w)) (hS : va_S (pm_A ad n s.heap.size) s.heap H locs) (hK : pm_K D vwCl tI w s) (hvm : s.vm.Alike t.vm) (e1 : T'.heap = t.heap)
    (hL : ∀ z ∈ L, pm_A (fun k => ad (pm_rn q k)) wc.length H.size z.base) (he : pm_end D (fun k => ad (pm_rn q k)) (fun k => tI (pm_rn q k)) wc.length H.size O' o st0 t) :
    ∃ w1, O' o w1 ∧ w1.length = wc.length ∧ va_P D vwCl (pm_w ad tI (pm_bk (pm_rn q) w q w1)) T'.heap ∧ va_D (pm_A ad n s.heap.size) (pm_w ad tI (pm_bk (pm_rn q) w q w1)) ∧ va_S (pm_A ad n s.heap.size) s.heap T'.heap (locs ++ L) ∧ pm_K D vwCl tI (pm_bk (pm_rn q) w q w1) s := by
  obtain ⟨w1, hO, hl, hP1, hK1, hz, hk⟩ := he
  subst hn
  rw [hst] at hz hk
  have hi := pm_D.inj hD
  obtain ⟨g1, g2⟩ := hf.back (H1 := T'.heap) hP hi hl (by rw [e1]; exact hP1) (fun x h1 h2 => by rw [e1]; exact hk x h1 h2) hK (hK1.moved hvm.symm)
  refine ⟨w1, hO, hl, g1, pm_D (by rw [pm_bk_len]; exact hi) (fun k hk' => Or.inl ⟨k, by rw [pm_bk_len] at hk'; exact hk', rfl⟩), ⟨Nat.le_trans hS.1 (by rw [e1]; exact hz), fun x h1 h2 => ?_, fun z hz' => ?_⟩, g2⟩
  · rw [e1, hk x (Nat.lt_of_lt_of_le h1 hS.1) (fun z => h2 (hf.fr hS.1 x z))]
    exact hS.2.1 x h1 h2
  · rcases List.mem_append.mp hz' with h1 | h1
    · exact hS.2.2 z h1
    · exact hf.fr hS.1 _ (hL z h1)
/-- what a callee asks of its start -/
theorem pm_start {q : List Nat} {w wc : List pm_E} (hf : pm_fits q w wc) (hn : w.length = n) {H : Heap} {locs : List Loc} (hP : va_P D vwCl (pm_w ad tI w) H) (hD : va_D (pm_A ad n s.heap.size) (pm_w ad tI w)) (hS : va_S (pm_A ad n s.heap.size) s.heap H locs) (hK : pm_K D vwCl tI w s)
    (hG : pm_G (pm_A ad n s.heap.size) s s.heap) (As : List Value) : FrameBlind (pm_Pc D (fun k => ad (pm_rn q k)) (fun k => tI (pm_rn q k)) H.size As wc) ∧ ∀ U : State, U.heap = H → s.WarmedH U.vm → pm_Pc D (fun k => ad (pm_rn q k)) (fun k => tI (pm_rn q k)) H.size As wc (As.map (pm_v (fun k => ad (pm_rn q k)))).toArray U := by
  refine ⟨fun a U g mk h => ?_, fun U hU hW => ?_⟩
  · obtain ⟨h1, h2, h3, h4, h5, h6⟩ := h
    exact ⟨h1, h2, h3, h4.moved (Vm.Alike.refl U.vm), h5, h6.calling g mk a⟩
  · subst hn
    refine ⟨rfl, by rw [hU], by rw [hU]; exact hf.P hP, (hf.K hK).moved hW.alike, hf.inj (pm_D.inj hD), ?_⟩
    exact hG.warm hW (fun x h1 h2 => by rw [hU]; exact hS.2.1 x h1 h2) (fun x hx => hf.fr hS.1 x hx)
theorem pm_map_comp (ad f : Nat → Nat) (l : List Value) : (l.map (pm_v f)).map (pm_v ad) = l.map (pm_v (fun k => ad (f k))) := by
  rw [List.map_map]
  exact List.map_congr_left (fun v _ => pm_v_comp ad f v)
theorem pm_cats (ad : Nat → Nat) (l : List Value) : ((l.map (pm_v ad)).map fun v => v.category) = l.map Value.category := by
  rw [List.map_map]
  exact List.map_congr_left (fun v _ => pm_cat ad v)
/-- a virtual call of a method that may throw: what it throws goes on to the caller's caller -/
theorem pm_J.call {pc ix ci k0 d' mc' ms' : Nat} {L : List (Option Value)} {st rest As : List Value} {w wc : List pm_E} {M' : pm_M} {O' : pm_O → List pm_E → Prop} {fs : List Value} {qc : vw_C} (q : List Nat)
    (hM : pm_Met l M' d' mc' ms' (.ref k0 :: As) wc O') (hd : pm_find I.1 pc = some (.invokevirtual ix, 3))
    (hw : ∀ x ∈ wsV M.2.2.2.2 ix qc.1 M'.1 [Cond.code M'.1 M'.2.1 M'.2.2.1 M'.2.2.2.1], x ∈ pm_tb)
    (hy : M'.1.cls = qc.1 ∧ M'.1.cls ≠ "java/lang/invoke/MethodHandle" ∧ M'.1.cls ≠ "java/lang/invoke/VarHandle" ∧ (parseMethodDescriptor M'.1.desc).map (fun d => d.parameters.length) = some As.length)
    (hst : st = ((Value.ref k0 :: As).map (pm_v (pm_rn q))).reverse ++ rest) (hf : pm_fits q w wc) (hn : w.length = n) (hr : wc[k0]? = some (.inr (ci, fs))) (hqc : vwCl[ci]? = some qc)
    (hrest : (rest.map Value.category).sum ≤ 8) (hdd : d' + 1 ≤ d) (hml : M'.2.2.1 ≤ 81) (hmc : cells + mc' ≤ mc) (hms : slots + ms' ≤ ms)
    (kx : ∀ E w1, O' (.inr E) w1 → w1.length = wc.length → O (.inr E) (pm_bk (pm_rn q) w q w1))
    (kr : ∀ v w1, O' (.inl v) w1 → w1.length = wc.length → pm_J l M I d mc ms n O (cells + mc') (slots + ms') (pc + 3, L, (v.map (pm_v (pm_rn q))).toList ++ rest, pm_bk (pm_rn q) w q w1)) :
    pm_J l M I d mc ms n O cells slots (pc, L, st, w) := by
  intro p e s m args below meth c D ad tI X H locs ls hP hD hS hL hK
  obtain ⟨X1, Xml, Xr, Xlk, Xt, XG, Xl⟩ := id X
  have hdg := X1.dec hd
  obtain ⟨hb1, hpre⟩ := pm_start hf hn hP hD hS hK XG (.ref k0 :: As)
  subst hst
  have hrun := vx_runV (g := F0 m pc ls ((((Value.ref k0 :: As).map (pm_v (pm_rn q))).reverse ++ rest).map (pm_v ad))) (rest := rest.map (pm_v ad)) (As := As.map (pm_v (fun k => ad (pm_rn q k)))) (b := ad (pm_rn q k0)) (cells := cells) (slots := slots) (locs := locs) (below := below) (meth := meth) (e := e) (H := H) (R := pm_rm d mc ms)
    (⟨X1.1, X1.2.1, Xml, X1.2.2.1, X1.2.2.2.1⟩ : CallFix p m c M.2.1 M.2.2.1 s args (pm_ws M) M.2.2.2.2) (hM D (fun k => ad (pm_rn q k)) (fun k => tI (pm_rn q k)) H.size)
    (cwV As.length X1.2.2.2.1 (C := qc.1) (fun x hx => by
      unfold wsV at hx
      rcases List.mem_append.mp hx with h | h
      · exact pm_good hw x (by unfold wsV; exact List.mem_append_left _ h)
      · rcases List.mem_cons.mp h with h | h
        · exact pm_good hw x (by unfold wsV; rw [h]; exact List.mem_append_right _ List.mem_cons_self)
        · exact ⟨pm_ws_mem h, pm_tb_good h⟩) rfl rfl rfl hy ⟨hdd, by show 8 + (M'.2.2.1 + 11) + 100 * d' ≤ 100 * d; omega⟩)
    ⟨hb1, va_recv (hf.K hK).obj (hf.P hP) hqc (pm_w_get hr), hpre⟩ rfl (by simp) hL.2.1
    (by show List.map (pm_v ad) _ = _
        rw [List.map_append, List.map_reverse, pm_map_comp]
        simp [pm_v]) (lv_room (by rw [pm_cats]; exact hrest)) hdg ⟨hmc, hms⟩
  intro T hT XT
  rcases hrun T hT XT with ⟨v, st₀, t, T', L', h0, X', hL', e1, e2, ⟨v', hv', he⟩, hgo⟩ | ⟨qx, st₀, t, T', L', E, ce, h0, X', hL', e1, e2, he, hce, hcv, hcl, hgo⟩
  · have hvm : s.vm.Alike t.vm := by rw [← e2]; exact X'.warmed.alike
    obtain ⟨w1, hO, hl1, a1, a2, a3, a4⟩ := pm_after hf hn h0 hP hD hS hK hvm e1 hL' he
    obtain ⟨t2, b1, b2⟩ := kr v' w1 hO hl1 p e s m args below meth c D ad tI X T'.heap (locs ++ L') ls a1 a2 a3 hL a4 T' rfl X'
    refine ⟨t2, hgo t2 ?_, b2⟩
    cases hv'
    have : (List.map (pm_v ad) ((v'.map (pm_v (pm_rn q))).toList ++ rest)) = (v'.map (pm_v (fun k => ad (pm_rn q k)))).toList ++ rest.map (pm_v ad) := by
      cases v' with
      | none => rfl
      | some z => simp [pm_v_comp]
    dsimp only at b1
    rw [this] at b1
    exact b1
  · have hvm : s.vm.Alike t.vm := by rw [← e2]; exact X'.warmed.alike
    obtain ⟨w1, hO, hl1, a1, a2, a3, a4⟩ := pm_after hf hn h0 hP hD hS hK hvm e1 hL' he
    have hout := vx_out (p := p) (l := l) (e := e) (R := pm_rm d mc ms) (below := below) (cells := cells + mc') (slots := slots + ms') (pc := pc) (ls := ls) (rest := rest.map (pm_v ad)) (Qc := pm_Qc D ad tI n s.heap.size O) (XC := pm_XC D ad tI n s.heap.size O) (free := pm_A ad n s.heap.size) (mc := mc) (ms := ms) (args := args) (s := s) (m := m) (E := E) (ce := ce) (q := qx) (H := T'.heap) (locs := locs ++ L')
      (fun x hx => absurd (Xt x hx) id) Xlk (by rw [e1]; exact hce) hcv hcl
      (fun t9 ht9 hW9 => ⟨pm_bk (pm_rn q) w q w1, kx E w1 hO hl1, by rw [pm_bk_len]; exact hn, by rw [ht9]; exact a1, a4.moved hW9, a3.F ht9⟩) a3.2.2 hmc hms T' rfl X'
    obtain ⟨t2, b1, b2⟩ := hout
    exact ⟨t2, hgo.trans b1, b2⟩
end PME
end
section
section PMF
variable {l : Launch} {I : pm_I} {M : pm_M} {d mc ms n : Nat} {O : pm_O → List pm_E → Prop}
def pm_ent : Nat → List Value → List (Option Value)
  | n, [] => List.replicate n none
  | n, v :: vs => match Nat.beq v.category 2 with
    | true => some v :: none :: pm_ent (n - 2) vs
    | false => some v :: pm_ent (n - 1) vs
theorem pm_ent_len : ∀ (vs : List Value) (n : Nat), (vs.map Value.category).sum ≤ n → (pm_ent n vs).length = n
  | [], n, _ => by simp [pm_ent]
  | v :: vs, n, h => by
    simp only [List.map_cons, List.sum_cons] at h
    unfold pm_ent
    split
    · rename_i hc
      have hc := Nat.eq_of_beq_eq_true hc
      rw [List.length_cons, List.length_cons, pm_ent_len vs (n - 2) (by omega)]
      omega
    · rename_i hc
      have h1 : v.category = 1 := by
        rcases lv_cat v with h | h
        · exact h
        · rw [h] at hc; cases hc
      rw [List.length_cons, pm_ent_len vs (n - 1) (by omega)]
      omega
theorem pm_ent_get (ad : Nat → Nat) : ∀ (vs : List Value) (n i off : Nat) (v : Value), (pm_ent n vs)[i]? = some (some v) → (off + i, pm_v ad v) ∈ lv_args off (vs.map (pm_v ad))
  | [], n, i, off, v, h => by
    simp only [pm_ent, List.getElem?_replicate] at h
    split at h <;> simp at h
  | u :: vs, n, i, off, v, h => by
    unfold pm_ent at h
    show (off + i, pm_v ad v) ∈ (off, pm_v ad u) :: lv_args (if (pm_v ad u).category = 2 then off + 2 else off + 1) (vs.map (pm_v ad))
    rw [pm_cat]
    split at h
    · rename_i hc
      rw [if_pos (Nat.eq_of_beq_eq_true hc)]
      match i with
      | 0 => simp at h; subst h; exact List.mem_cons_self
      | 1 => simp at h
      | i + 2 =>
        refine List.mem_cons_of_mem _ ?_
        have := pm_ent_get ad vs (n - 2) i (off + 2) v (by simpa using h)
        rwa [show off + 2 + i = off + (i + 2) by omega] at this
    · rename_i hc
      rw [if_neg (fun z => by rw [z] at hc; cases hc)]
      match i with
      | 0 => simp at h; subst h; exact List.mem_cons_self
      | i + 1 =>
        refine List.mem_cons_of_mem _ ?_
        have := pm_ent_get ad vs (n - 1) i (off + 1) v (by simpa using h)
        rwa [show off + 1 + i = off + (i + 1) by omega] at this
theorem pm_sl_len (ad : Nat → Nat) : ∀ (vs : List Value), (lg_sl (vs.map (pm_v ad))).length = (vs.map Value.category).sum
  | [] => rfl
  | v :: vs => by
    have ih := pm_sl_len ad vs
    unfold lg_sl at ih ⊢
    simp only [List.map_cons, List.flatMap_cons, List.length_append, List.sum_cons, ih, pm_cat]
    rcases lv_cat v with h | h <;> simp [h]
/-- the tables' part of what a body needs, by program -/
def pm_Ib (M : pm_M) (I : pm_I) : Bool :=
  I.1.all (fun x => decide (decode M.2.1 x.1 = .ok x.2)) &&
  (I.2.1.all (fun x => match pm_nth vwCl x.2.2.1 with
    | some q => Nat.blt x.2.2.2 q.2.2 && (match x.2.1 with
      | false => decide (Cond.fieldLink M.2.2.2.2 x.1 (q.2.1 x.2.2.2).1 (q.2.1 x.2.2.2).2.1 (q.2.1 x.2.2.2).2.2.1 ∈ pm_tb)
      | true => decide (Cond.fieldLinkNest M.2.2.2.2 x.1 (q.2.1 x.2.2.2).1 (q.2.1 x.2.2.2).2.1 (q.2.1 x.2.2.2).2.2.1 "ShortTrees" ∈ pm_ng))
    | none => false) &&
  (I.2.2.all (fun x => match x.2 with
    | .int v => decide (Cond.constant M.2.2.2.2 x.1 v ∈ pm_tb)
    | .float v => decide (Cond.constantFloat M.2.2.2.2 x.1 v ∈ pm_tb)
    | .long v => decide (Cond.constantLong M.2.2.2.2 x.1 v ∈ pm_tb)
    | _ => false)))
theorem pm_lay0 : ∀ w ∈ u_ws RX0 TX0 3, w ∈ pm_tb := by decide +kernel
theorem pm_lay1 : ∀ w ∈ u_ws RX1 TX1 4, w ∈ pm_tb := by decide +kernel
theorem pm_lay2 : ∀ w ∈ u_ws RX2 TX2 4, w ∈ pm_tb := by decide +kernel
theorem pm_lay3 : ∀ w ∈ u_ws RX3 TX3 3, w ∈ pm_tb := by decide +kernel
theorem pm_lay4 : ∀ w ∈ u_ws RX4 TX4 7, w ∈ pm_tb := by decide +kernel
theorem pm_lay5 : ∀ w ∈ u_ws RX5 TX5 7, w ∈ pm_tb := by decide +kernel
theorem pm_lay6 : ∀ w ∈ u_ws RX6 TX6 27, w ∈ pm_tb := by decide +kernel
theorem pm_lay : ∀ (ci : Nat) (q : vw_C), vwCl[ci]? = some q → ∀ w ∈ u_ws q.1 q.2.1 q.2.2, w ∈ pm_tb
  | 0, q, h => by cases h; exact pm_lay0
  | 1, q, h => by cases h; exact pm_lay1
  | 2, q, h => by cases h; exact pm_lay2
  | 3, q, h => by cases h; exact pm_lay3
  | 4, q, h => by cases h; exact pm_lay4
  | 5, q, h => by cases h; exact pm_lay5
  | 6, q, h => by cases h; exact pm_lay6
  | n + 7, q, h => by simp [vwCl] at h
theorem pm_Ib_X (h : pm_Ib M I = true) {p : Program} {s : State} {m : MethodId} {args : Array Value} {c : Code} {A : Nat → Prop} {H : Heap} (hx : p.tables.exec = Jvm.exec) (hb : c.code = M.2.1) (hown : s.vm.findClass M.2.2.2.2 = some m.cls) (hts : ∀ w ∈ pm_ws M, w.before args s = true) (hG : pm_G A s H) :
    pm_X p s m args c M.2.1 M.2.2.2.2 (pm_ws M) I := by
  unfold pm_Ib at h
  simp only [Bool.and_eq_true, List.all_eq_true] at h
  obtain ⟨h1, h2, h3⟩ := h
  refine ⟨hx, hb, hown, hts, fun ci q hq w hw => pm_ws_mem (pm_lay ci q hq w hw), fun x hx' => of_decide_eq_true (h1 x hx'), fun x hx' => ?_, fun x hx' => ?_⟩
  · have h4 := h2 x hx'
    rw [pm_nth_eq] at h4
    split at h4
    · rename_i q hq
      simp only [Bool.and_eq_true] at h4
      refine ⟨q, hq, Nat.blt_eq.mp h4.1, ?_⟩
      have h5 := h4.2
      split at h5
      · exact Or.inl (hts _ (pm_ws_mem (of_decide_eq_true h5)))
      · exact Or.inr ⟨_, va_Nw.use rfl (hG.1 _ (of_decide_eq_true h5))⟩
    · cases h4
  · have h4 := h3 x hx'
    unfold pm_cok
    split at h4
    · rename_i hv; rw [hv]; exact hts _ (pm_ws_mem (of_decide_eq_true h4))
    · rename_i hv; rw [hv]; exact hts _ (pm_ws_mem (of_decide_eq_true h4))
    · rename_i hv; rw [hv]; exact hts _ (pm_ws_mem (of_decide_eq_true h4))
    · cases h4
/-- a contract out of its body -/
theorem pm_Met.of {As : List Value} {w : List pm_E} (hI : pm_Ib M I = true) (hy : plainName M.1.cls = true) (ho : M.1.cls = M.2.2.2.2) (hst : l.stackTraces = false) (hA : (As.map Value.category).sum ≤ M.2.2.1) (hj : pm_J l M I d mc ms w.length O 0 0 (0, pm_ent M.2.2.1 As, [], w)) : pm_Met l M d mc ms As w O := by
  intro D ad tI sz
  refine vx_ofW (cc := M.2.1) (maxL := M.2.2.1) (ret := M.2.2.2.1) hy rfl ?_
  intro p e s m args below meth c s₁ B hml ht hv
  obtain ⟨rfl, rfl, hP, hK, hinj, hG⟩ := hv
  have hts := atoms_spec (ws := pm_ws M) B.pre
  have hown : s.vm.findClass M.2.2.2.2 = some m.cls := by rw [← ho]; exact findClass_of_methodNamed B.named
  have X := pm_Ib_X hI B.exec B.bytes hown hts hG
  have hl := lv_entry (As.map (pm_v ad)) (n := M.2.2.1) (by rw [pm_sl_len]; exact hA)
  rw [lg_entry_eq]
  exact hj p e s m _ below meth c D ad tI ⟨X, hml, B.returns, B.notSynchronized, ht, hG, hst⟩ s.heap [] _ hP (pm_D hinj (fun k hk => Or.inl ⟨k, hk, rfl⟩)) va_S.rf
    ⟨pm_ent_len _ _ hA, hl.1, hl.2.1, fun i v hv => hl.2.2 (i, pm_v ad v) (by have := pm_ent_get ad As M.2.2.1 i 0 v hv; rwa [Nat.zero_add] at this)⟩ hK
end PMF
end
section
section PMG
variable {l : Launch} {I : pm_I} {M : pm_M} {d mc ms n : Nat} {O : pm_O → List pm_E → Prop} {cells slots : Nat}
/-- a static call -/
theorem pm_J.calls {pc ix d' mc' ms' : Nat} {L : List (Option Value)} {st rest As : List Value} {w wc : List pm_E} {M' : pm_M} {O' : pm_O → List pm_E → Prop} (q : List Nat)
    (hM : pm_Met l M' d' mc' ms' As wc O') (hd : pm_find I.1 pc = some (.invokestatic ix, 3))
    (hw : ∀ x ∈ [Cond.methodLink M.2.2.2.2 ix M'.1, Cond.static M'.1, Cond.initialized M'.1.cls, Cond.code M'.1 M'.2.1 M'.2.2.1 M'.2.2.2.1], x ∈ pm_tb)
    (hy : M'.1.cls ≠ "java/lang/invoke/MethodHandle" ∧ M'.1.cls ≠ "java/lang/invoke/VarHandle" ∧ (parseMethodDescriptor M'.1.desc).map (fun d => d.parameters.length) = some As.length)
    (hst : st = (As.map (pm_v (pm_rn q))).reverse ++ rest) (hf : pm_fits q w wc) (hn : w.length = n)
    (hrest : (rest.map Value.category).sum ≤ 8) (hdd : d' + 1 ≤ d) (hml : M'.2.2.1 ≤ 81) (hmc : cells + mc' ≤ mc) (hms : slots + ms' ≤ ms)
    (kx : ∀ E w1, O' (.inr E) w1 → w1.length = wc.length → O (.inr E) (pm_bk (pm_rn q) w q w1))
    (kr : ∀ v w1, O' (.inl v) w1 → w1.length = wc.length → pm_J l M I d mc ms n O (cells + mc') (slots + ms') (pc + 3, L, (v.map (pm_v (pm_rn q))).toList ++ rest, pm_bk (pm_rn q) w q w1)) :
    pm_J l M I d mc ms n O cells slots (pc, L, st, w) := by
  intro p e s m args below meth c D ad tI X H locs ls hP hD hS hL hK
  obtain ⟨X1, Xml, Xr, Xlk, Xt, XG, Xl⟩ := id X
  have hdg := X1.dec hd
  obtain ⟨hb1, hpre⟩ := pm_start hf hn hP hD hS hK XG As
  subst hst
  have hwb : ∀ x ∈ [Cond.methodLink M.2.2.2.2 ix M'.1, Cond.static M'.1, Cond.initialized M'.1.cls, Cond.code M'.1 M'.2.1 M'.2.2.1 M'.2.2.2.1], x.before args s = true := fun x hx => X1.2.2.2.1 x (pm_ws_mem (hw x hx))
  have hrun := vx_runS (g := F0 m pc ls (((As.map (pm_v (pm_rn q))).reverse ++ rest).map (pm_v ad))) (rest := rest.map (pm_v ad)) (As := As.map (pm_v (fun k => ad (pm_rn q k)))) (cells := cells) (slots := slots) (locs := locs) (below := below) (meth := meth) (e := e) (H := H) (R := pm_rm d mc ms)
    (⟨X1.1, X1.2.1, Xml, X1.2.2.1, X1.2.2.2.1⟩ : CallFix p m c M.2.1 M.2.2.1 s args (pm_ws M) M.2.2.2.2) (hM D (fun k => ad (pm_rn q k)) (fun k => tI (pm_rn q k)) H.size)
    ⟨callB_of As.length X1.2.2.2.1 (fun x hx => by
        rcases List.mem_cons.mp hx with h | h
        · exact pm_good hw x (by rw [h]; simp)
        · exact ⟨pm_ws_mem h, pm_tb_good h⟩) rfl rfl rfl (hwb _ (by simp)) (hwb _ (by simp)) hy ⟨hdd, by show 8 + (M'.2.2.1 + 11) + 100 * d' ≤ 100 * d; omega⟩, hwb _ (by simp)⟩
    ⟨hb1, hpre⟩ rfl (by simp) hL.2.1
    (by show List.map (pm_v ad) _ = _
        rw [List.map_append, List.map_reverse, pm_map_comp]) (lv_room (by rw [pm_cats]; exact hrest)) hdg ⟨hmc, hms⟩
  intro T hT XT
  rcases hrun T hT XT with ⟨v, st₀, t, T', L', h0, X', hL', e1, e2, ⟨v', hv', he⟩, hgo⟩ | ⟨qx, st₀, t, T', L', E, ce, h0, X', hL', e1, e2, he, hce, hcv, hcl, hgo⟩
  · have hvm : s.vm.Alike t.vm := by rw [← e2]; exact X'.warmed.alike
    obtain ⟨w1, hO, hl1, a1, a2, a3, a4⟩ := pm_after hf hn h0 hP hD hS hK hvm e1 hL' he
    obtain ⟨t2, b1, b2⟩ := kr v' w1 hO hl1 p e s m args below meth c D ad tI X T'.heap (locs ++ L') ls a1 a2 a3 hL a4 T' rfl X'
    refine ⟨t2, hgo t2 ?_, b2⟩
    cases hv'
    have : (List.map (pm_v ad) ((v'.map (pm_v (pm_rn q))).toList ++ rest)) = (v'.map (pm_v (fun k => ad (pm_rn q k)))).toList ++ rest.map (pm_v ad) := by
      cases v' with
      | none => rfl
      | some z => simp [pm_v_comp]
    dsimp only at b1
    rw [this] at b1
    exact b1
  · have hvm : s.vm.Alike t.vm := by rw [← e2]; exact X'.warmed.alike
    obtain ⟨w1, hO, hl1, a1, a2, a3, a4⟩ := pm_after hf hn h0 hP hD hS hK hvm e1 hL' he
    have hout := vx_out (p := p) (l := l) (e := e) (R := pm_rm d mc ms) (below := below) (cells := cells + mc') (slots := slots + ms') (pc := pc) (ls := ls) (rest := rest.map (pm_v ad)) (Qc := pm_Qc D ad tI n s.heap.size O) (XC := pm_XC D ad tI n s.heap.size O) (free := pm_A ad n s.heap.size) (mc := mc) (ms := ms) (args := args) (s := s) (m := m) (E := E) (ce := ce) (q := qx) (H := T'.heap) (locs := locs ++ L')
      (fun x hx => absurd (Xt x hx) id) Xlk (by rw [e1]; exact hce) hcv hcl
      (fun t9 ht9 hW9 => ⟨pm_bk (pm_rn q) w q w1, kx E w1 hO hl1, by rw [pm_bk_len]; exact hn, by rw [ht9]; exact a1, a4.moved hW9, a3.F ht9⟩) a3.2.2 hmc hms T' rfl X'
    obtain ⟨t2, b1, b2⟩ := hout
    exact ⟨t2, hgo.trans b1, b2⟩
/-- Math.min, Math.max -/
theorem pm_J.mmin {pc ix : Nat} {L : List (Option Value)} {rest : List Value} {w : List pm_E} {x y : Int32} (hd : pm_find I.1 pc = some (.invokestatic ix, 3))
    (hw : ∀ z ∈ [Cond.methodLink M.2.2.2.2 ix Lib.Math.min.name, Cond.static Lib.Math.min.name, Cond.initialized "java/lang/Math", Cond.code Lib.Math.min.name Lib.Math.min.code 2 (some .int)], z ∈ pm_tb) (hrest : (rest.map Value.category).sum ≤ 8) (hdd : 1 ≤ d) (hc : cells ≤ mc) (hs : slots ≤ ms)
    (k : pm_J l M I d mc ms n O cells slots (pc + 3, L, .int (if y < x then y else x) :: rest, w)) : pm_J l M I d mc ms n O cells slots (pc, L, .int y :: .int x :: rest, w) := by
  intro p e s m args below meth c D ad tI X H locs ls hP hD hS hL hK
  obtain ⟨X1, Xml, Xr, Xlk, Xt, XG, Xl⟩ := id X
  have hwb := fun z hz => X1.2.2.2.1 z (pm_ws_mem (M := M) (hw z hz))
  exact va_mmin X1.1 X1.2.1 (Xml.trans hL.2.1.symm) X1.2.2.1 (hwb _ (by simp)) (hwb _ (by simp)) (hwb _ (by simp)) (hwb _ (by simp)) hdd (by rw [pm_cats]; show _ ≤ 100 * d; omega) hc hs (X1.dec hd) (k p e s m args below meth c D ad tI X H locs ls hP hD hS hL hK)
theorem pm_J.mmax {pc ix : Nat} {L : List (Option Value)} {rest : List Value} {w : List pm_E} {x y : Int32} (hd : pm_find I.1 pc = some (.invokestatic ix, 3))
    (hw : ∀ z ∈ [Cond.methodLink M.2.2.2.2 ix Lib.Math.max.name, Cond.static Lib.Math.max.name, Cond.initialized "java/lang/Math", Cond.code Lib.Math.max.name Lib.Math.max.code 2 (some .int)], z ∈ pm_tb) (hrest : (rest.map Value.category).sum ≤ 8) (hdd : 1 ≤ d) (hc : cells ≤ mc) (hs : slots ≤ ms)
    (k : pm_J l M I d mc ms n O cells slots (pc + 3, L, .int (if x < y then y else x) :: rest, w)) : pm_J l M I d mc ms n O cells slots (pc, L, .int y :: .int x :: rest, w) := by
  intro p e s m args below meth c D ad tI X H locs ls hP hD hS hL hK
  obtain ⟨X1, Xml, Xr, Xlk, Xt, XG, Xl⟩ := id X
  have hwb := fun z hz => X1.2.2.2.1 z (pm_ws_mem (M := M) (hw z hz))
  exact va_mmax X1.1 X1.2.1 (Xml.trans hL.2.1.symm) X1.2.2.1 (hwb _ (by simp)) (hwb _ (by simp)) (hwb _ (by simp)) (hwb _ (by simp)) hdd (by rw [pm_cats]; show _ ≤ 100 * d; omega) hc hs (X1.dec hd) (k p e s m args below meth c D ad tI X H locs ls hP hD hS hL hK)
/-- System.arraycopy of ints -/
theorem pm_J.copyi {pc ix h0 h1 n0 n1 : Nat} {L : List (Option Value)} {rest : List Value} {w : List pm_E} {sp dp k : Int32} {f g : Nat → Int32} (hd : pm_find I.1 pc = some (.invokestatic ix, 3))
    (hw : ∀ z ∈ [Cond.methodLink M.2.2.2.2 ix arraycopyName, Cond.native arraycopyName, Cond.static arraycopyName, Cond.initialized "java/lang/System"], z ∈ pm_tb) (hrest : (rest.map Value.category).sum ≤ 8) (hdd : 1 ≤ d)
    (hh0 : w[h0]? = some (.inl (.int, n0, .inl f))) (hh1 : w[h1]? = some (.inl (.int, n1, .inl g))) (g1 : ¬ sp < 0) (g2 : ¬ dp < 0) (g3 : ¬ k < 0) (g4 : sp.toNatClampNeg + k.toNatClampNeg ≤ n0) (g5 : dp.toNatClampNeg + k.toNatClampNeg ≤ n1)
    (kk : pm_J l M I d mc ms n O cells slots (pc + 3, L, rest, w.set h1 (.inl (.int, n1, .inl (va_cpy f g sp.toNatClampNeg dp.toNatClampNeg k.toNatClampNeg))))) : pm_J l M I d mc ms n O cells slots (pc, L, .int k :: .int dp :: .ref h1 :: .int sp :: .ref h0 :: rest, w) := by
  intro p e s m args below meth c D ad tI X H locs ls hP hD hS hL hK
  obtain ⟨X1, Xml, Xr, Xlk, Xt, XG, Xl⟩ := id X
  have hwb := fun z hz => X1.2.2.2.1 z (pm_ws_mem (M := M) (hw z hz))
  have hKK : va_K D vwCl [(tI h0, .int), (tI h1, .int)] s := by
    have h := (hK.at hh0).app (hK.at hh1)
    exact h
  refine va_copyi X1.1 X1.2.1 (Xml.trans hL.2.1.symm) X1.2.2.1 (hwb _ (by simp)) (hwb _ (by simp)) (hwb _ (by simp)) (hwb _ (by simp)) hKK hP hD hS h0 h1 0 1 (pm_w_get hh0) (pm_w_get hh1) rfl rfl rfl g1 g2 g3 g4 g5 (fun _ _ => rfl) hdd ?_ (X1.dec hd)
    (fun H1 locs1 a1 a2 a3 => kk p e s m args below meth c D ad tI X H1 locs1 ls (by rw [pm_w_set]; exact a1) (by rw [pm_w_set]; exact a2) a3 hL (hK.setA hh1))
  rw [pm_cats]
  have : nativeFrameWords "java/lang/System" "arraycopy" 5 + 11 ≤ 90 := by decide +kernel
  show _ ≤ 100 * d
  omega
/-- throw new E("text") -/
theorem pm_J.throw {pc ik is ic : Nat} {L : List (Option Value)} {rest : List Value} {w : List pm_E} {cls text : String} {names : List String}
    (d0 : pm_find I.1 pc = some (.new ik, 3)) (d3 : pm_find I.1 (pc + 3) = some (.dup, 1)) (d4 : pm_find I.1 (pc + 4) = some (.ldc is, 2)) (d6 : pm_find I.1 (pc + 6) = some (.invokespecial ic, 3)) (d9 : pm_find I.1 (pc + 9) = some (.athrow, 1))
    (hown : M.2.2.2.2 = RX5) (hstr : (RX5, is, text) ∈ pm_strs) (hcls : Bundle.fit cls = true) (hnames : ∀ x ∈ names, Bundle.fit x = true) (hk : Cond.classLink RX5 ik cls ∈ pm_tb) (hini : Cond.initialized cls ∈ pm_tb)
    (hat : ∀ x ∈ vx_atS RX5 ic cls names, x ∈ pm_tb ∨ x ∈ pm_ng) (hgood : ∀ x ∈ Cond.classLink RX5 ik cls :: Cond.initialized cls :: vx_atS RX5 ic cls names, vx_ot x = true)
    (hrest : (rest.map Value.category).sum ≤ 8) (hlen : names.length ≤ 2) (hdd : 6 ≤ d) (hmc : cells + 1 ≤ mc) (hms : slots + 6 ≤ ms) (hn : w.length = n) (hO : O (.inr cls) w) : pm_J l M I d mc ms n O cells slots (pc, L, rest, w) := by
  intro p e s m args below meth c D ad tI X H locs ls hP hD hS hL hK
  obtain ⟨X1, Xml, Xr, Xlk, Xt, XG, Xl⟩ := id X
  obtain ⟨G1, ⟨sa, G2⟩, G3, G4, G5⟩ := id XG
  have hown' := X1.2.2.1
  rw [hown] at hown'
  refine vx_throwS X1.1 X1.2.1 Xl (own := RX5) (cls := cls) (text := text) (names := names) (ik := ik) (is := is) (ic := ic) (sa := sa is) hown' hcls hnames (X1.2.2.2.1 _ (pm_ws_mem hk)) (X1.2.2.2.1 _ (pm_ws_mem hini)) (G2 _ hstr)
    (fun x hx => (hat x hx).elim (fun h => X1.2.2.2.1 _ (pm_ws_mem h)) (fun h => ?_)) hgood G4 G5 hS (hL.2.1.trans Xml.symm) (X1.dec d0) (X1.dec d3) (X1.dec d4) (X1.dec d6) (X1.dec d9) (fun x hx => absurd (Xt x hx) id)
    (by show _ < d; omega) (by rw [pm_cats]; show (rest.map Value.category).sum + (13 * (names.length + 1) + 43) ≤ 100 * d; omega) hmc hms Xlk
    (fun t hW hz hk' => ⟨w, hO, hn, hP.kept (fun k x hx => hk' _ (hP k x hx).lt), hK.moved hW, Nat.le_trans hS.1 hz, fun x h1 h2 => by rw [hk' x (Nat.lt_of_lt_of_le h1 hS.1)]; exact hS.2.1 x h1 h2⟩) hS.2.2 hmc hms
  have hkd := (List.mem_filter.mp h).2
  have h1 := G1 x h
  unfold pm_kind at hkd
  split at hkd
  · exact va_Nw.use rfl h1
  · exact va_Nw.use rfl h1
  · exact va_Nw.use rfl h1
  · exact va_Nw.use rfl h1
  · cases hkd
end PMG
end
section
def iJ6_bitCount_0f7a4 : pm_I := ([(0, .iload_n 0, 1), (1, .iload_n 0, 1), (2, .iconst 1, 1), (3, .iushr, 1), (4, .ldc_w 265, 3), (7, .iand, 1), (8, .isub, 1), (9, .istore_n 0, 1), (10, .iload_n 0, 1), (11, .ldc_w 266, 3), (14, .iand, 1), (15, .iload_n 0, 1), (16, .iconst 2, 1), (17, .iushr, 1), (18, .ldc_w 266, 3), (21, .iand, 1), (22, .iadd, 1), (23, .istore_n 0, 1), (24, .iload_n 0, 1), (25, .iload_n 0, 1), (26, .iconst 4, 1), (27, .iushr, 1), (28, .iadd, 1), (29, .ldc_w 267, 3), (32, .iand, 1), (33, .istore_n 0, 1), (34, .iload_n 0, 1), (35, .iload_n 0, 1), (36, .bipush 8, 2), (38, .iushr, 1), (39, .iadd, 1), (40, .istore_n 0, 1), (41, .iload_n 0, 1), (42, .iload_n 0, 1), (43, .bipush 16, 2), (45, .iushr, 1), (46, .iadd, 1), (47, .istore_n 0, 1), (48, .iload_n 0, 1), (49, .bipush 63, 2), (51, .iand, 1), (52, .ireturn, 1)], [], [(265, .int 1431655765), (266, .int 858993459), (267, .int 252645135)])
abbrev mJ6_bitCount_0f7a4 : pm_M := (yJ6_bitCount_0f7a4, cJ6_bitCount_0f7a4, 1, (some .int), RJ6)
theorem kJ6_bitCount_0f7a4 : pm_Ib mJ6_bitCount_0f7a4 iJ6_bitCount_0f7a4 = true := by decide +kernel
def iJ9_max_7cf53 : pm_I := ([(0, .iload_n 0, 1), (1, .iload_n 1, 1), (2, .if_icmp .lt 7, 3), (5, .iload_n 0, 1), (6, .goto 4, 3), (9, .iload_n 1, 1), (10, .ireturn, 1)], [], [])
abbrev mJ9_max_7cf53 : pm_M := (yJ9_max_7cf53, cJ9_max_7cf53, 2, (some .int), RJ9)
theorem kJ9_max_7cf53 : pm_Ib mJ9_max_7cf53 iJ9_max_7cf53 = true := by decide +kernel
def iJ9_min_7cf53 : pm_I := ([(0, .iload_n 0, 1), (1, .iload_n 1, 1), (2, .if_icmp .gt 7, 3), (5, .iload_n 0, 1), (6, .goto 4, 3), (9, .iload_n 1, 1), (10, .ireturn, 1)], [], [])
abbrev mJ9_min_7cf53 : pm_M := (yJ9_min_7cf53, cJ9_min_7cf53, 2, (some .int), RJ9)
theorem kJ9_min_7cf53 : pm_Ib mJ9_min_7cf53 iJ9_min_7cf53 = true := by decide +kernel
def iJ7_fill_d0a16 : pm_I := ([(0, .iconst 0, 1), (1, .istore_n 3, 1), (2, .aload_n 0, 1), (3, .arraylength, 1), (4, .istore 4, 2), (6, .iload_n 3, 1), (7, .iload 4, 2), (9, .if_icmp .ge 13, 3), (12, .aload_n 0, 1), (13, .iload_n 3, 1), (14, .lload_n 1, 1), (15, .lastore, 1), (16, .iinc 3 1, 3), (19, .goto (-13), 3), (22, .return_, 1)], [], [])
abbrev mJ7_fill_d0a16 : pm_M := (yJ7_fill_d0a16, cJ7_fill_d0a16, 5, none, RJ7)
theorem kJ7_fill_d0a16 : pm_Ib mJ7_fill_d0a16 iJ7_fill_d0a16 = true := by decide +kernel
def iJ7_fill_53178 : pm_I := ([(0, .iconst 0, 1), (1, .istore_n 2, 1), (2, .aload_n 0, 1), (3, .arraylength, 1), (4, .istore_n 3, 1), (5, .iload_n 2, 1), (6, .iload_n 3, 1), (7, .if_icmp .ge 13, 3), (10, .aload_n 0, 1), (11, .iload_n 2, 1), (12, .iload_n 1, 1), (13, .iastore, 1), (14, .iinc 2 1, 3), (17, .goto (-12), 3), (20, .return_, 1)], [], [])
abbrev mJ7_fill_53178 : pm_M := (yJ7_fill_53178, cJ7_fill_53178, 4, none, RJ7)
theorem kJ7_fill_53178 : pm_Ib mJ7_fill_53178 iJ7_fill_53178 = true := by decide +kernel
end
section
def iL_type : pm_I := ([(0, .aload_n 2, 1), (1, .iconst 0, 1), (2, .aload_n 0, 1), (3, .iload_n 1, 1), (4, .invokevirtual 7, 3), (7, .i2l, 1), (8, .lastore, 1), (9, .goto 6, 3), (12, .astore_n 3, 1), (13, .iconst 1, 1), (14, .ireturn, 1), (15, .iconst 0, 1), (16, .ireturn, 1)], [], [])
abbrev mL_type : pm_M := (yL_type, cL_type, 4, (some .int), RL)
theorem kL_type : pm_Ib mL_type iL_type = true := by decide +kernel
def iL_states : pm_I := ([(0, .aload_n 3, 1), (1, .iconst 0, 1), (2, .aload_n 0, 1), (3, .iload_n 1, 1), (4, .iload_n 2, 1), (5, .invokevirtual 15, 3), (8, .i2l, 1), (9, .lastore, 1), (10, .goto 7, 3), (13, .astore 4, 2), (15, .iconst 1, 1), (16, .ireturn, 1), (17, .iconst 0, 1), (18, .ireturn, 1)], [], [])
abbrev mL_states : pm_M := (yL_states, cL_states, 5, (some .int), RL)
theorem kL_states : pm_Ib mL_states iL_states = true := by decide +kernel
def iL_weigh : pm_I := ([(0, .aload_n 3, 1), (1, .iconst 0, 1), (2, .aload_n 0, 1), (3, .iload_n 1, 1), (4, .iload_n 2, 1), (5, .invokevirtual 21, 3), (8, .i2l, 1), (9, .lastore, 1), (10, .goto 11, 3), (13, .astore 4, 2), (15, .iconst 1, 1), (16, .ireturn, 1), (17, .astore 4, 2), (19, .iconst 2, 1), (20, .ireturn, 1), (21, .iconst 0, 1), (22, .ireturn, 1)], [], [])
abbrev mL_weigh : pm_M := (yL_weigh, cL_weigh, 5, (some .int), RL)
theorem kL_weigh : pm_Ib mL_weigh iL_weigh = true := by decide +kernel
def iL_changes : pm_I := ([(0, .aload_n 3, 1), (1, .iconst 0, 1), (2, .aload_n 0, 1), (3, .iload_n 1, 1), (4, .iload_n 2, 1), (5, .invokevirtual 26, 3), (8, .i2l, 1), (9, .lastore, 1), (10, .goto 7, 3), (13, .astore 4, 2), (15, .iconst 1, 1), (16, .ireturn, 1), (17, .iconst 0, 1), (18, .ireturn, 1)], [], [])
abbrev mL_changes : pm_M := (yL_changes, cL_changes, 5, (some .int), RL)
theorem kL_changes : pm_Ib mL_changes iL_changes = true := by decide +kernel
def iL_length : pm_I := ([(0, .aload_n 2, 1), (1, .iconst 0, 1), (2, .aload_n 0, 1), (3, .iload_n 1, 1), (4, .invokevirtual 29, 3), (7, .i2l, 1), (8, .lastore, 1), (9, .goto 6, 3), (12, .astore_n 3, 1), (13, .iconst 1, 1), (14, .ireturn, 1), (15, .iconst 0, 1), (16, .ireturn, 1)], [], [])
abbrev mL_length : pm_M := (yL_length, cL_length, 4, (some .int), RL)
theorem kL_length : pm_Ib mL_length iL_length = true := by decide +kernel
def iL_search : pm_I := ([(0, .aload_n 1, 1), (1, .iconst 0, 1), (2, .aload_n 0, 1), (3, .invokevirtual 33, 3), (6, .i2l, 1), (7, .lastore, 1), (8, .goto 6, 3), (11, .astore_n 2, 1), (12, .iconst 1, 1), (13, .ireturn, 1), (14, .iconst 0, 1), (15, .ireturn, 1)], [], [])
abbrev mL_search : pm_M := (yL_search, cL_search, 3, (some .int), RL)
theorem kL_search : pm_Ib mL_search iL_search = true := by decide +kernel
def iL_best : pm_I := ([(0, .aload_n 2, 1), (1, .iconst 0, 1), (2, .aload_n 0, 1), (3, .iload_n 1, 1), (4, .invokevirtual 37, 3), (7, .i2l, 1), (8, .lastore, 1), (9, .goto 6, 3), (12, .astore_n 3, 1), (13, .iconst 1, 1), (14, .ireturn, 1), (15, .iconst 0, 1), (16, .ireturn, 1)], [], [])
abbrev mL_best : pm_M := (yL_best, cL_best, 4, (some .int), RL)
theorem kL_best : pm_Ib mL_best iL_best = true := by decide +kernel
def iL_split : pm_I := ([(0, .aload_n 3, 1), (1, .iconst 0, 1), (2, .aload_n 0, 1), (3, .iload_n 1, 1), (4, .iload_n 2, 1), (5, .invokevirtual 40, 3), (8, .ifCond .eq 7, 3), (11, .lconst 1, 1), (12, .goto 4, 3), (15, .lconst 0, 1), (16, .lastore, 1), (17, .goto 7, 3), (20, .astore 4, 2), (22, .iconst 1, 1), (23, .ireturn, 1), (24, .iconst 0, 1), (25, .ireturn, 1)], [], [])
abbrev mL_split : pm_M := (yL_split, cL_split, 5, (some .int), RL)
theorem kL_split : pm_Ib mL_split iL_split = true := by decide +kernel
def iL_share : pm_I := ([(0, .aload_n 2, 1), (1, .iconst 0, 1), (2, .aload_n 0, 1), (3, .iload_n 1, 1), (4, .invokevirtual 44, 3), (7, .f2d, 1), (8, .dastore, 1), (9, .goto 6, 3), (12, .astore_n 3, 1), (13, .iconst 1, 1), (14, .ireturn, 1), (15, .iconst 0, 1), (16, .ireturn, 1)], [], [])
abbrev mL_share : pm_M := (yL_share, cL_share, 4, (some .int), RL)
theorem kL_share : pm_Ib mL_share iL_share = true := by decide +kernel
def iL_distance : pm_I := ([(0, .aload_n 3, 1), (1, .iconst 0, 1), (2, .aload_n 0, 1), (3, .iload_n 1, 1), (4, .iload_n 2, 1), (5, .invokevirtual 48, 3), (8, .i2l, 1), (9, .lastore, 1), (10, .goto 7, 3), (13, .astore 4, 2), (15, .iconst 1, 1), (16, .ireturn, 1), (17, .iconst 0, 1), (18, .ireturn, 1)], [], [])
abbrev mL_distance : pm_M := (yL_distance, cL_distance, 5, (some .int), RL)
theorem kL_distance : pm_Ib mL_distance iL_distance = true := by decide +kernel
def iL_consistency : pm_I := ([(0, .aload_n 2, 1), (1, .iconst 0, 1), (2, .aload_n 0, 1), (3, .iload_n 1, 1), (4, .invokevirtual 51, 3), (7, .f2d, 1), (8, .dastore, 1), (9, .goto 6, 3), (12, .astore_n 3, 1), (13, .iconst 1, 1), (14, .ireturn, 1), (15, .iconst 0, 1), (16, .ireturn, 1)], [], [])
abbrev mL_consistency : pm_M := (yL_consistency, cL_consistency, 4, (some .int), RL)
theorem kL_consistency : pm_Ib mL_consistency iL_consistency = true := by decide +kernel
def iL_retention : pm_I := ([(0, .aload_n 2, 1), (1, .iconst 0, 1), (2, .aload_n 0, 1), (3, .iload_n 1, 1), (4, .invokevirtual 54, 3), (7, .f2d, 1), (8, .dastore, 1), (9, .goto 6, 3), (12, .astore_n 3, 1), (13, .iconst 1, 1), (14, .ireturn, 1), (15, .iconst 0, 1), (16, .ireturn, 1)], [], [])
abbrev mL_retention : pm_M := (yL_retention, cL_retention, 4, (some .int), RL)
theorem kL_retention : pm_Ib mL_retention iL_retention = true := by decide +kernel
def iL_write : pm_I := ([(0, .aload_n 2, 1), (1, .iconst 0, 1), (2, .aload_n 0, 1), (3, .iload_n 1, 1), (4, .invokevirtual 57, 3), (7, .i2l, 1), (8, .lastore, 1), (9, .goto 6, 3), (12, .astore_n 3, 1), (13, .iconst 1, 1), (14, .ireturn, 1), (15, .iconst 0, 1), (16, .ireturn, 1)], [], [])
abbrev mL_write : pm_M := (yL_write, cL_write, 4, (some .int), RL)
theorem kL_write : pm_Ib mL_write iL_write = true := by decide +kernel
def iL_common : pm_I := ([(0, .aload_n 2, 1), (1, .iconst 0, 1), (2, .aload_n 0, 1), (3, .fload_n 1, 1), (4, .invokevirtual 60, 3), (7, .i2l, 1), (8, .lastore, 1), (9, .goto 9, 3), (12, .astore_n 3, 1), (13, .iconst 1, 1), (14, .ireturn, 1), (15, .astore_n 3, 1), (16, .iconst 2, 1), (17, .ireturn, 1), (18, .iconst 0, 1), (19, .ireturn, 1)], [], [])
abbrev mL_common : pm_M := (yL_common, cL_common, 4, (some .int), RL)
theorem kL_common : pm_Ib mL_common iL_common = true := by decide +kernel
def iL_law : pm_I := ([(0, .new 8, 3), (3, .dup, 1), (4, .invokespecial 64, 3), (7, .astore_n 1, 1), (8, .new 65, 3), (11, .dup, 1), (12, .invokespecial 67, 3), (15, .astore_n 2, 1), (16, .iconst 1, 1), (17, .newarray .long, 2), (19, .astore_n 3, 1), (20, .iconst 1, 1), (21, .newarray .double, 2), (23, .astore 4, 2), (25, .iconst 0, 1), (26, .istore 5, 2), (28, .iload 5, 2), (30, .aload_n 0, 1), (31, .arraylength, 1), (32, .iconst 3, 1), (33, .isub, 1), (34, .if_icmp .gt 1083, 3), (37, .aload_n 0, 1), (38, .iload 5, 2), (40, .iaload, 1), (41, .bipush 31, 2), (43, .iand, 1), (44, .tableswitch 1067 0 17 #[88, 146, 159, 227, 295, 308, 376, 432, 476, 489, 545, 620, 698, 766, 844, 922, 978, 1042], 88), (132, .aload_n 1, 1), (133, .aload_n 0, 1), (134, .iload 5, 2), (136, .iconst 1, 1), (137, .iadd, 1), (138, .iaload, 1), (139, .i2c, 1), (140, .aload_n 3, 1), (141, .invokestatic 68, 3), (144, .istore 6, 2), (146, .aload_n 2, 1), (147, .aload_n 0, 1), (148, .iload 5, 2), (150, .iconst 1, 1), (151, .iadd, 1), (152, .iaload, 1), (153, .i2c, 1), (154, .invokevirtual 73, 3), (157, .istore 7, 2), (159, .aload_n 2, 1), (160, .invokevirtual 74, 3), (163, .iload 6, 2), (165, .if_icmp .eq 5, 3), (168, .iconst 0, 1), (169, .ireturn, 1), (170, .iload 6, 2), (172, .ifCond .ne 15, 3), (175, .aload_n 3, 1), (176, .iconst 0, 1), (177, .laload, 1), (178, .iload 7, 2), (180, .i2l, 1), (181, .lcmp, 1), (182, .ifCond .eq 5, 3), (185, .iconst 0, 1), (186, .ireturn, 1), (187, .goto 924, 3), (190, .aload_n 1, 1), (191, .invokevirtual 77, 3), (194, .aload_n 2, 1), (195, .invokevirtual 80, 3), (198, .if_icmp .eq 913, 3), (201, .iconst 0, 1), (202, .ireturn, 1), (203, .aload_n 1, 1), (204, .aload_n 0, 1), (205, .iload 5, 2), (207, .iconst 1, 1), (208, .iadd, 1), (209, .iaload, 1), (210, .aload_n 0, 1), (211, .iload 5, 2), (213, .iconst 2, 1), (214, .iadd, 1), (215, .iaload, 1), (216, .aload_n 3, 1), (217, .invokestatic 81, 3), (220, .istore 6, 2), (222, .aload_n 2, 1), (223, .aload_n 0, 1), (224, .iload 5, 2), (226, .iconst 1, 1), (227, .iadd, 1), (228, .iaload, 1), (229, .aload_n 0, 1), (230, .iload 5, 2), (232, .iconst 2, 1), (233, .iadd, 1), (234, .iaload, 1), (235, .invokevirtual 84, 3), (238, .istore 7, 2), (240, .aload_n 2, 1), (241, .invokevirtual 74, 3), (244, .iload 6, 2), (246, .if_icmp .eq 5, 3), (249, .iconst 0, 1), (250, .ireturn, 1), (251, .iload 6, 2), (253, .ifCond .ne 15, 3), (256, .aload_n 3, 1), (257, .iconst 0, 1), (258, .laload, 1), (259, .iload 7, 2), (261, .i2l, 1), (262, .lcmp, 1), (263, .ifCond .eq 5, 3), (266, .iconst 0, 1), (267, .ireturn, 1), (268, .goto 843, 3), (271, .aload_n 1, 1), (272, .aload_n 0, 1), (273, .iload 5, 2), (275, .iconst 1, 1), (276, .iadd, 1), (277, .iaload, 1), (278, .aload_n 0, 1), (279, .iload 5, 2), (281, .iconst 2, 1), (282, .iadd, 1), (283, .iaload, 1), (284, .aload_n 3, 1), (285, .invokestatic 85, 3), (288, .istore 6, 2), (290, .aload_n 2, 1), (291, .aload_n 0, 1), (292, .iload 5, 2), (294, .iconst 1, 1), (295, .iadd, 1), (296, .iaload, 1), (297, .aload_n 0, 1), (298, .iload 5, 2), (300, .iconst 2, 1), (301, .iadd, 1), (302, .iaload, 1), (303, .invokevirtual 87, 3), (306, .istore 7, 2), (308, .aload_n 2, 1), (309, .invokevirtual 74, 3), (312, .iload 6, 2), (314, .if_icmp .eq 5, 3), (317, .iconst 0, 1), (318, .ireturn, 1), (319, .iload 6, 2), (321, .ifCond .ne 15, 3), (324, .aload_n 3, 1), (325, .iconst 0, 1), (326, .laload, 1), (327, .iload 7, 2), (329, .i2l, 1), (330, .lcmp, 1), (331, .ifCond .eq 5, 3), (334, .iconst 0, 1), (335, .ireturn, 1), (336, .goto 775, 3), (339, .aload_n 1, 1), (340, .invokevirtual 88, 3), (343, .aload_n 2, 1), (344, .invokevirtual 91, 3), (347, .if_icmp .eq 764, 3), (350, .iconst 0, 1), (351, .ireturn, 1), (352, .aload_n 1, 1), (353, .aload_n 0, 1), (354, .iload 5, 2), (356, .iconst 1, 1), (357, .iadd, 1), (358, .iaload, 1), (359, .aload_n 0, 1), (360, .iload 5, 2), (362, .iconst 2, 1), (363, .iadd, 1), (364, .iaload, 1), (365, .aload_n 3, 1), (366, .invokestatic 92, 3), (369, .istore 6, 2), (371, .aload_n 2, 1), (372, .aload_n 0, 1), (373, .iload 5, 2), (375, .iconst 1, 1), (376, .iadd, 1), (377, .iaload, 1), (378, .aload_n 0, 1), (379, .iload 5, 2), (381, .iconst 2, 1), (382, .iadd, 1), (383, .iaload, 1), (384, .invokevirtual 94, 3), (387, .istore 7, 2), (389, .aload_n 2, 1), (390, .invokevirtual 74, 3), (393, .iload 6, 2), (395, .if_icmp .eq 5, 3), (398, .iconst 0, 1), (399, .ireturn, 1), (400, .iload 6, 2), (402, .ifCond .ne 15, 3), (405, .aload_n 3, 1), (406, .iconst 0, 1), (407, .laload, 1), (408, .iload 7, 2), (410, .i2l, 1), (411, .lcmp, 1), (412, .ifCond .eq 5, 3), (415, .iconst 0, 1), (416, .ireturn, 1), (417, .goto 694, 3), (420, .aload_n 1, 1), (421, .aload_n 0, 1), (422, .iload 5, 2), (424, .iconst 1, 1), (425, .iadd, 1), (426, .iaload, 1), (427, .aload_n 3, 1), (428, .invokestatic 95, 3), (431, .istore 6, 2), (433, .aload_n 2, 1), (434, .aload_n 0, 1), (435, .iload 5, 2), (437, .iconst 1, 1), (438, .iadd, 1), (439, .iaload, 1), (440, .invokevirtual 98, 3), (443, .istore 7, 2), (445, .aload_n 2, 1), (446, .invokevirtual 74, 3), (449, .iload 6, 2), (451, .if_icmp .eq 5, 3), (454, .iconst 0, 1), (455, .ireturn, 1), (456, .iload 6, 2), (458, .ifCond .ne 15, 3), (461, .aload_n 3, 1), (462, .iconst 0, 1), (463, .laload, 1), (464, .iload 7, 2), (466, .i2l, 1), (467, .lcmp, 1), (468, .ifCond .eq 5, 3), (471, .iconst 0, 1), (472, .ireturn, 1), (473, .goto 638, 3), (476, .aload_n 1, 1), (477, .aload_n 3, 1), (478, .invokestatic 99, 3), (481, .istore 6, 2), (483, .aload_n 2, 1), (484, .invokevirtual 102, 3), (487, .istore 7, 2), (489, .aload_n 2, 1), (490, .invokevirtual 74, 3), (493, .iload 6, 2), (495, .if_icmp .eq 5, 3), (498, .iconst 0, 1), (499, .ireturn, 1), (500, .iload 6, 2), (502, .ifCond .ne 15, 3), (505, .aload_n 3, 1), (506, .iconst 0, 1), (507, .laload, 1), (508, .iload 7, 2), (510, .i2l, 1), (511, .lcmp, 1), (512, .ifCond .eq 5, 3), (515, .iconst 0, 1), (516, .ireturn, 1), (517, .goto 594, 3), (520, .aload_n 1, 1), (521, .invokevirtual 103, 3), (524, .aload_n 2, 1), (525, .invokevirtual 106, 3), (528, .if_icmp .eq 583, 3), (531, .iconst 0, 1), (532, .ireturn, 1), (533, .aload_n 1, 1), (534, .aload_n 0, 1), (535, .iload 5, 2), (537, .iconst 1, 1), (538, .iadd, 1), (539, .iaload, 1), (540, .aload_n 3, 1), (541, .invokestatic 107, 3), (544, .istore 6, 2), (546, .aload_n 2, 1), (547, .aload_n 0, 1), (548, .iload 5, 2), (550, .iconst 1, 1), (551, .iadd, 1), (552, .iaload, 1), (553, .invokevirtual 109, 3), (556, .istore 7, 2), (558, .aload_n 2, 1), (559, .invokevirtual 74, 3), (562, .iload 6, 2), (564, .if_icmp .eq 5, 3), (567, .iconst 0, 1), (568, .ireturn, 1), (569, .iload 6, 2), (571, .ifCond .ne 15, 3), (574, .aload_n 3, 1), (575, .iconst 0, 1), (576, .laload, 1), (577, .iload 7, 2), (579, .i2l, 1), (580, .lcmp, 1), (581, .ifCond .eq 5, 3), (584, .iconst 0, 1), (585, .ireturn, 1), (586, .goto 525, 3), (589, .aload_n 1, 1), (590, .aload_n 0, 1), (591, .iload 5, 2), (593, .iconst 1, 1), (594, .iadd, 1), (595, .iaload, 1), (596, .aload_n 0, 1), (597, .iload 5, 2), (599, .iconst 2, 1), (600, .iadd, 1), (601, .iaload, 1), (602, .aload_n 3, 1), (603, .invokestatic 110, 3), (606, .istore 6, 2), (608, .aload_n 2, 1), (609, .aload_n 0, 1), (610, .iload 5, 2), (612, .iconst 1, 1), (613, .iadd, 1), (614, .iaload, 1), (615, .aload_n 0, 1), (616, .iload 5, 2), (618, .iconst 2, 1), (619, .iadd, 1), (620, .iaload, 1), (621, .invokevirtual 112, 3), (624, .istore 7, 2), (626, .aload_n 2, 1), (627, .invokevirtual 74, 3), (630, .iload 6, 2), (632, .if_icmp .eq 5, 3), (635, .iconst 0, 1), (636, .ireturn, 1), (637, .iload 6, 2), (639, .ifCond .ne 22, 3), (642, .aload_n 3, 1), (643, .iconst 0, 1), (644, .laload, 1), (645, .iload 7, 2), (647, .ifCond .eq 7, 3), (650, .lconst 1, 1), (651, .goto 4, 3), (654, .lconst 0, 1), (655, .lcmp, 1), (656, .ifCond .eq 5, 3), (659, .iconst 0, 1), (660, .ireturn, 1), (661, .goto 450, 3), (664, .aload_n 1, 1), (665, .aload_n 0, 1), (666, .iload 5, 2), (668, .iconst 1, 1), (669, .iadd, 1), (670, .iaload, 1), (671, .aload 4, 2), (673, .invokestatic 113, 3), (676, .istore 6, 2), (678, .aload_n 2, 1), (679, .aload_n 0, 1), (680, .iload 5, 2), (682, .iconst 1, 1), (683, .iadd, 1), (684, .iaload, 1), (685, .invokevirtual 116, 3), (688, .fstore 7, 2), (690, .aload_n 2, 1), (691, .invokevirtual 74, 3), (694, .iload 6, 2), (696, .if_icmp .eq 5, 3), (699, .iconst 0, 1), (700, .ireturn, 1), (701, .iload 6, 2), (703, .ifCond .ne 36, 3), (706, .aload 4, 2), (708, .iconst 0, 1), (709, .daload, 1), (710, .fload 7, 2), (712, .f2d, 1), (713, .dcmp .l, 1), (714, .ifCond .eq 25, 3), (717, .aload 4, 2), (719, .iconst 0, 1), (720, .daload, 1), (721, .aload 4, 2), (723, .iconst 0, 1), (724, .daload, 1), (725, .dcmp .l, 1), (726, .ifCond .eq 11, 3), (729, .fload 7, 2), (731, .fload 7, 2), (733, .fcmp .l, 1), (734, .ifCond .ne 5, 3), (737, .iconst 0, 1), (738, .ireturn, 1), (739, .goto 372, 3), (742, .aload_n 1, 1), (743, .aload_n 0, 1), (744, .iload 5, 2), (746, .iconst 1, 1), (747, .iadd, 1), (748, .iaload, 1), (749, .aload_n 0, 1), (750, .iload 5, 2), (752, .iconst 2, 1), (753, .iadd, 1), (754, .iaload, 1), (755, .aload_n 3, 1), (756, .invokestatic 117, 3), (759, .istore 6, 2), (761, .aload_n 2, 1), (762, .aload_n 0, 1), (763, .iload 5, 2), (765, .iconst 1, 1), (766, .iadd, 1), (767, .iaload, 1), (768, .aload_n 0, 1), (769, .iload 5, 2), (771, .iconst 2, 1), (772, .iadd, 1), (773, .iaload, 1), (774, .invokevirtual 119, 3), (777, .istore 7, 2), (779, .aload_n 2, 1), (780, .invokevirtual 74, 3), (783, .iload 6, 2), (785, .if_icmp .eq 5, 3), (788, .iconst 0, 1), (789, .ireturn, 1), (790, .iload 6, 2), (792, .ifCond .ne 15, 3), (795, .aload_n 3, 1), (796, .iconst 0, 1), (797, .laload, 1), (798, .iload 7, 2), (800, .i2l, 1), (801, .lcmp, 1), (802, .ifCond .eq 5, 3), (805, .iconst 0, 1), (806, .ireturn, 1), (807, .goto 304, 3), (810, .aload_n 1, 1), (811, .aload_n 0, 1), (812, .iload 5, 2), (814, .iconst 1, 1), (815, .iadd, 1), (816, .iaload, 1), (817, .aload 4, 2), (819, .invokestatic 120, 3), (822, .istore 6, 2), (824, .aload_n 2, 1), (825, .aload_n 0, 1), (826, .iload 5, 2), (828, .iconst 1, 1), (829, .iadd, 1), (830, .iaload, 1), (831, .invokevirtual 122, 3), (834, .fstore 7, 2), (836, .aload_n 2, 1), (837, .invokevirtual 74, 3), (840, .iload 6, 2), (842, .if_icmp .eq 5, 3), (845, .iconst 0, 1), (846, .ireturn, 1), (847, .iload 6, 2), (849, .ifCond .ne 36, 3), (852, .aload 4, 2), (854, .iconst 0, 1), (855, .daload, 1), (856, .fload 7, 2), (858, .f2d, 1), (859, .dcmp .l, 1), (860, .ifCond .eq 25, 3), (863, .aload 4, 2), (865, .iconst 0, 1), (866, .daload, 1), (867, .aload 4, 2), (869, .iconst 0, 1), (870, .daload, 1), (871, .dcmp .l, 1), (872, .ifCond .eq 11, 3), (875, .fload 7, 2), (877, .fload 7, 2), (879, .fcmp .l, 1), (880, .ifCond .ne 5, 3), (883, .iconst 0, 1), (884, .ireturn, 1), (885, .goto 226, 3), (888, .aload_n 1, 1), (889, .aload_n 0, 1), (890, .iload 5, 2), (892, .iconst 1, 1), (893, .iadd, 1), (894, .iaload, 1), (895, .aload 4, 2), (897, .invokestatic 123, 3), (900, .istore 6, 2), (902, .aload_n 2, 1), (903, .aload_n 0, 1), (904, .iload 5, 2), (906, .iconst 1, 1), (907, .iadd, 1), (908, .iaload, 1), (909, .invokevirtual 125, 3), (912, .fstore 7, 2), (914, .aload_n 2, 1), (915, .invokevirtual 74, 3), (918, .iload 6, 2), (920, .if_icmp .eq 5, 3), (923, .iconst 0, 1), (924, .ireturn, 1), (925, .iload 6, 2), (927, .ifCond .ne 36, 3), (930, .aload 4, 2), (932, .iconst 0, 1), (933, .daload, 1), (934, .fload 7, 2), (936, .f2d, 1), (937, .dcmp .l, 1), (938, .ifCond .eq 25, 3), (941, .aload 4, 2), (943, .iconst 0, 1), (944, .daload, 1), (945, .aload 4, 2), (947, .iconst 0, 1), (948, .daload, 1), (949, .dcmp .l, 1), (950, .ifCond .eq 11, 3), (953, .fload 7, 2), (955, .fload 7, 2), (957, .fcmp .l, 1), (958, .ifCond .ne 5, 3), (961, .iconst 0, 1), (962, .ireturn, 1), (963, .goto 148, 3), (966, .aload_n 1, 1), (967, .aload_n 0, 1), (968, .iload 5, 2), (970, .iconst 1, 1), (971, .iadd, 1), (972, .iaload, 1), (973, .aload_n 3, 1), (974, .invokestatic 126, 3), (977, .istore 6, 2), (979, .aload_n 2, 1), (980, .aload_n 0, 1), (981, .iload 5, 2), (983, .iconst 1, 1), (984, .iadd, 1), (985, .iaload, 1), (986, .invokevirtual 128, 3), (989, .istore 7, 2), (991, .aload_n 2, 1), (992, .invokevirtual 74, 3), (995, .iload 6, 2), (997, .if_icmp .eq 5, 3), (1000, .iconst 0, 1), (1001, .ireturn, 1), (1002, .iload 6, 2), (1004, .ifCond .ne 15, 3), (1007, .aload_n 3, 1), (1008, .iconst 0, 1), (1009, .laload, 1), (1010, .iload 7, 2), (1012, .i2l, 1), (1013, .lcmp, 1), (1014, .ifCond .eq 5, 3), (1017, .iconst 0, 1), (1018, .ireturn, 1), (1019, .goto 92, 3), (1022, .aload_n 1, 1), (1023, .aload_n 0, 1), (1024, .iload 5, 2), (1026, .iconst 1, 1), (1027, .iadd, 1), (1028, .iaload, 1), (1029, .i2f, 1), (1030, .ldc 129, 2), (1032, .fmul, 1), (1033, .aload_n 3, 1), (1034, .invokestatic 130, 3), (1037, .istore 6, 2), (1039, .aload_n 2, 1), (1040, .aload_n 0, 1), (1041, .iload 5, 2), (1043, .iconst 1, 1), (1044, .iadd, 1), (1045, .iaload, 1), (1046, .i2f, 1), (1047, .ldc 129, 2), (1049, .fmul, 1), (1050, .invokevirtual 133, 3), (1053, .istore 7, 2), (1055, .aload_n 2, 1), (1056, .invokevirtual 74, 3), (1059, .iload 6, 2), (1061, .if_icmp .eq 5, 3), (1064, .iconst 0, 1), (1065, .ireturn, 1), (1066, .iload 6, 2), (1068, .ifCond .ne 15, 3), (1071, .aload_n 3, 1), (1072, .iconst 0, 1), (1073, .laload, 1), (1074, .iload 7, 2), (1076, .i2l, 1), (1077, .lcmp, 1), (1078, .ifCond .eq 5, 3), (1081, .iconst 0, 1), (1082, .ireturn, 1), (1083, .goto 28, 3), (1086, .aload_n 1, 1), (1087, .aload_n 0, 1), (1088, .iload 5, 2), (1090, .iconst 1, 1), (1091, .iadd, 1), (1092, .iaload, 1), (1093, .invokevirtual 134, 3), (1096, .aload_n 2, 1), (1097, .aload_n 0, 1), (1098, .iload 5, 2), (1100, .iconst 1, 1), (1101, .iadd, 1), (1102, .iaload, 1), (1103, .invokevirtual 138, 3), (1106, .if_icmp .eq 5, 3), (1109, .iconst 0, 1), (1110, .ireturn, 1), (1111, .iinc 5 3, 3), (1114, .goto (-1086), 3), (1117, .iconst 1, 1), (1118, .ireturn, 1)], [], [(129, .float 1040187392)])
abbrev mL_law : pm_M := (yL_law, cL_law, 8, (some .boolean), RL)
theorem gRL_7 : ∀ x ∈ wsV RL 7 RX5 yX5_type [Cond.code yX5_type cX5_type 2 (some .int)], x ∈ pm_tb := by decide +kernel
theorem vX5_type : yX5_type.cls = RX5 ∧ yX5_type.cls ≠ "java/lang/invoke/MethodHandle" ∧ yX5_type.cls ≠ "java/lang/invoke/VarHandle" ∧ (parseMethodDescriptor yX5_type.desc).map (fun d => d.parameters.length) = some 1 := by decide +kernel
theorem gRL_15 : ∀ x ∈ wsV RL 15 RX5 yX5_states [Cond.code yX5_states cX5_states 3 (some .int)], x ∈ pm_tb := by decide +kernel
theorem vX5_states : yX5_states.cls = RX5 ∧ yX5_states.cls ≠ "java/lang/invoke/MethodHandle" ∧ yX5_states.cls ≠ "java/lang/invoke/VarHandle" ∧ (parseMethodDescriptor yX5_states.desc).map (fun d => d.parameters.length) = some 2 := by decide +kernel
theorem gRL_21 : ∀ x ∈ wsV RL 21 RX5 yX5_weigh [Cond.code yX5_weigh cX5_weigh 4 (some .int)], x ∈ pm_tb := by decide +kernel
theorem vX5_weigh : yX5_weigh.cls = RX5 ∧ yX5_weigh.cls ≠ "java/lang/invoke/MethodHandle" ∧ yX5_weigh.cls ≠ "java/lang/invoke/VarHandle" ∧ (parseMethodDescriptor yX5_weigh.desc).map (fun d => d.parameters.length) = some 2 := by decide +kernel
theorem gRL_26 : ∀ x ∈ wsV RL 26 RX5 yX5_changes [Cond.code yX5_changes cX5_changes 3 (some .int)], x ∈ pm_tb := by decide +kernel
theorem vX5_changes : yX5_changes.cls = RX5 ∧ yX5_changes.cls ≠ "java/lang/invoke/MethodHandle" ∧ yX5_changes.cls ≠ "java/lang/invoke/VarHandle" ∧ (parseMethodDescriptor yX5_changes.desc).map (fun d => d.parameters.length) = some 2 := by decide +kernel
theorem gRL_29 : ∀ x ∈ wsV RL 29 RX5 yX5_length [Cond.code yX5_length cX5_length 2 (some .int)], x ∈ pm_tb := by decide +kernel
theorem vX5_length : yX5_length.cls = RX5 ∧ yX5_length.cls ≠ "java/lang/invoke/MethodHandle" ∧ yX5_length.cls ≠ "java/lang/invoke/VarHandle" ∧ (parseMethodDescriptor yX5_length.desc).map (fun d => d.parameters.length) = some 1 := by decide +kernel
theorem gRL_33 : ∀ x ∈ wsV RL 33 RX5 yX5_search [Cond.code yX5_search cX5_search 1 (some .int)], x ∈ pm_tb := by decide +kernel
theorem vX5_search : yX5_search.cls = RX5 ∧ yX5_search.cls ≠ "java/lang/invoke/MethodHandle" ∧ yX5_search.cls ≠ "java/lang/invoke/VarHandle" ∧ (parseMethodDescriptor yX5_search.desc).map (fun d => d.parameters.length) = some 0 := by decide +kernel
theorem gRL_37 : ∀ x ∈ wsV RL 37 RX5 yX5_best [Cond.code yX5_best cX5_best 2 (some .int)], x ∈ pm_tb := by decide +kernel
theorem vX5_best : yX5_best.cls = RX5 ∧ yX5_best.cls ≠ "java/lang/invoke/MethodHandle" ∧ yX5_best.cls ≠ "java/lang/invoke/VarHandle" ∧ (parseMethodDescriptor yX5_best.desc).map (fun d => d.parameters.length) = some 1 := by decide +kernel
theorem gRL_40 : ∀ x ∈ wsV RL 40 RX5 yX5_split [Cond.code yX5_split cX5_split 3 (some .boolean)], x ∈ pm_tb := by decide +kernel
theorem vX5_split : yX5_split.cls = RX5 ∧ yX5_split.cls ≠ "java/lang/invoke/MethodHandle" ∧ yX5_split.cls ≠ "java/lang/invoke/VarHandle" ∧ (parseMethodDescriptor yX5_split.desc).map (fun d => d.parameters.length) = some 2 := by decide +kernel
theorem gRL_44 : ∀ x ∈ wsV RL 44 RX5 yX5_share [Cond.code yX5_share cX5_share 2 (some .float)], x ∈ pm_tb := by decide +kernel
theorem vX5_share : yX5_share.cls = RX5 ∧ yX5_share.cls ≠ "java/lang/invoke/MethodHandle" ∧ yX5_share.cls ≠ "java/lang/invoke/VarHandle" ∧ (parseMethodDescriptor yX5_share.desc).map (fun d => d.parameters.length) = some 1 := by decide +kernel
theorem gRL_48 : ∀ x ∈ wsV RL 48 RX5 yX5_distance [Cond.code yX5_distance cX5_distance 3 (some .int)], x ∈ pm_tb := by decide +kernel
theorem vX5_distance : yX5_distance.cls = RX5 ∧ yX5_distance.cls ≠ "java/lang/invoke/MethodHandle" ∧ yX5_distance.cls ≠ "java/lang/invoke/VarHandle" ∧ (parseMethodDescriptor yX5_distance.desc).map (fun d => d.parameters.length) = some 2 := by decide +kernel
theorem gRL_51 : ∀ x ∈ wsV RL 51 RX5 yX5_consistency [Cond.code yX5_consistency cX5_consistency 3 (some .float)], x ∈ pm_tb := by decide +kernel
theorem vX5_consistency : yX5_consistency.cls = RX5 ∧ yX5_consistency.cls ≠ "java/lang/invoke/MethodHandle" ∧ yX5_consistency.cls ≠ "java/lang/invoke/VarHandle" ∧ (parseMethodDescriptor yX5_consistency.desc).map (fun d => d.parameters.length) = some 1 := by decide +kernel
theorem gRL_54 : ∀ x ∈ wsV RL 54 RX5 yX5_retention [Cond.code yX5_retention cX5_retention 5 (some .float)], x ∈ pm_tb := by decide +kernel
theorem vX5_retention : yX5_retention.cls = RX5 ∧ yX5_retention.cls ≠ "java/lang/invoke/MethodHandle" ∧ yX5_retention.cls ≠ "java/lang/invoke/VarHandle" ∧ (parseMethodDescriptor yX5_retention.desc).map (fun d => d.parameters.length) = some 1 := by decide +kernel
theorem gRL_57 : ∀ x ∈ wsV RL 57 RX5 yX5_write [Cond.code yX5_write cX5_write 3 (some .int)], x ∈ pm_tb := by decide +kernel
theorem vX5_write : yX5_write.cls = RX5 ∧ yX5_write.cls ≠ "java/lang/invoke/MethodHandle" ∧ yX5_write.cls ≠ "java/lang/invoke/VarHandle" ∧ (parseMethodDescriptor yX5_write.desc).map (fun d => d.parameters.length) = some 1 := by decide +kernel
theorem gRL_60 : ∀ x ∈ wsV RL 60 RX5 yX5_common [Cond.code yX5_common cX5_common 4 (some .int)], x ∈ pm_tb := by decide +kernel
theorem vX5_common : yX5_common.cls = RX5 ∧ yX5_common.cls ≠ "java/lang/invoke/MethodHandle" ∧ yX5_common.cls ≠ "java/lang/invoke/VarHandle" ∧ (parseMethodDescriptor yX5_common.desc).map (fun d => d.parameters.length) = some 1 := by decide +kernel
theorem gRL_73 : ∀ x ∈ wsV RL 73 RX6 yX6_type [Cond.code yX6_type cX6_type 2 (some .int)], x ∈ pm_tb := by decide +kernel
theorem vX6_type : yX6_type.cls = RX6 ∧ yX6_type.cls ≠ "java/lang/invoke/MethodHandle" ∧ yX6_type.cls ≠ "java/lang/invoke/VarHandle" ∧ (parseMethodDescriptor yX6_type.desc).map (fun d => d.parameters.length) = some 1 := by decide +kernel
theorem gRL_74 : ∀ x ∈ wsV RL 74 RX6 yX6_thrown [Cond.code yX6_thrown cX6_thrown 1 (some .int)], x ∈ pm_tb := by decide +kernel
theorem vX6_thrown : yX6_thrown.cls = RX6 ∧ yX6_thrown.cls ≠ "java/lang/invoke/MethodHandle" ∧ yX6_thrown.cls ≠ "java/lang/invoke/VarHandle" ∧ (parseMethodDescriptor yX6_thrown.desc).map (fun d => d.parameters.length) = some 0 := by decide +kernel
theorem gRL_77 : ∀ x ∈ wsV RL 77 RX5 yX5_table [Cond.code yX5_table cX5_table 4 (some .int)], x ∈ pm_tb := by decide +kernel
theorem vX5_table : yX5_table.cls = RX5 ∧ yX5_table.cls ≠ "java/lang/invoke/MethodHandle" ∧ yX5_table.cls ≠ "java/lang/invoke/VarHandle" ∧ (parseMethodDescriptor yX5_table.desc).map (fun d => d.parameters.length) = some 0 := by decide +kernel
theorem gRL_80 : ∀ x ∈ wsV RL 80 RX6 yX6_table [Cond.code yX6_table cX6_table 2 (some .int)], x ∈ pm_tb := by decide +kernel
theorem vX6_table : yX6_table.cls = RX6 ∧ yX6_table.cls ≠ "java/lang/invoke/MethodHandle" ∧ yX6_table.cls ≠ "java/lang/invoke/VarHandle" ∧ (parseMethodDescriptor yX6_table.desc).map (fun d => d.parameters.length) = some 0 := by decide +kernel
theorem gRL_84 : ∀ x ∈ wsV RL 84 RX6 yX6_states [Cond.code yX6_states cX6_states 3 (some .int)], x ∈ pm_tb := by decide +kernel
theorem vX6_states : yX6_states.cls = RX6 ∧ yX6_states.cls ≠ "java/lang/invoke/MethodHandle" ∧ yX6_states.cls ≠ "java/lang/invoke/VarHandle" ∧ (parseMethodDescriptor yX6_states.desc).map (fun d => d.parameters.length) = some 2 := by decide +kernel
theorem gRL_87 : ∀ x ∈ wsV RL 87 RX6 yX6_weigh [Cond.code yX6_weigh cX6_weigh 4 (some .int)], x ∈ pm_tb := by decide +kernel
theorem vX6_weigh : yX6_weigh.cls = RX6 ∧ yX6_weigh.cls ≠ "java/lang/invoke/MethodHandle" ∧ yX6_weigh.cls ≠ "java/lang/invoke/VarHandle" ∧ (parseMethodDescriptor yX6_weigh.desc).map (fun d => d.parameters.length) = some 2 := by decide +kernel
theorem gRL_88 : ∀ x ∈ wsV RL 88 RX5 yX5_trees [Cond.code yX5_trees cX5_trees 1 (some .int)], x ∈ pm_tb := by decide +kernel
theorem vX5_trees : yX5_trees.cls = RX5 ∧ yX5_trees.cls ≠ "java/lang/invoke/MethodHandle" ∧ yX5_trees.cls ≠ "java/lang/invoke/VarHandle" ∧ (parseMethodDescriptor yX5_trees.desc).map (fun d => d.parameters.length) = some 0 := by decide +kernel
theorem gRL_91 : ∀ x ∈ wsV RL 91 RX6 yX6_trees [Cond.code yX6_trees cX6_trees 1 (some .int)], x ∈ pm_tb := by decide +kernel
theorem vX6_trees : yX6_trees.cls = RX6 ∧ yX6_trees.cls ≠ "java/lang/invoke/MethodHandle" ∧ yX6_trees.cls ≠ "java/lang/invoke/VarHandle" ∧ (parseMethodDescriptor yX6_trees.desc).map (fun d => d.parameters.length) = some 0 := by decide +kernel
theorem gRL_94 : ∀ x ∈ wsV RL 94 RX6 yX6_changes [Cond.code yX6_changes cX6_changes 3 (some .int)], x ∈ pm_tb := by decide +kernel
theorem vX6_changes : yX6_changes.cls = RX6 ∧ yX6_changes.cls ≠ "java/lang/invoke/MethodHandle" ∧ yX6_changes.cls ≠ "java/lang/invoke/VarHandle" ∧ (parseMethodDescriptor yX6_changes.desc).map (fun d => d.parameters.length) = some 2 := by decide +kernel
theorem gRL_98 : ∀ x ∈ wsV RL 98 RX6 yX6_length [Cond.code yX6_length cX6_length 2 (some .int)], x ∈ pm_tb := by decide +kernel
theorem vX6_length : yX6_length.cls = RX6 ∧ yX6_length.cls ≠ "java/lang/invoke/MethodHandle" ∧ yX6_length.cls ≠ "java/lang/invoke/VarHandle" ∧ (parseMethodDescriptor yX6_length.desc).map (fun d => d.parameters.length) = some 1 := by decide +kernel
theorem gRL_102 : ∀ x ∈ wsV RL 102 RX6 yX6_search [Cond.code yX6_search cX6_search 5 (some .int)], x ∈ pm_tb := by decide +kernel
theorem vX6_search : yX6_search.cls = RX6 ∧ yX6_search.cls ≠ "java/lang/invoke/MethodHandle" ∧ yX6_search.cls ≠ "java/lang/invoke/VarHandle" ∧ (parseMethodDescriptor yX6_search.desc).map (fun d => d.parameters.length) = some 0 := by decide +kernel
theorem gRL_103 : ∀ x ∈ wsV RL 103 RX5 yX5_found [Cond.code yX5_found cX5_found 1 (some .int)], x ∈ pm_tb := by decide +kernel
theorem vX5_found : yX5_found.cls = RX5 ∧ yX5_found.cls ≠ "java/lang/invoke/MethodHandle" ∧ yX5_found.cls ≠ "java/lang/invoke/VarHandle" ∧ (parseMethodDescriptor yX5_found.desc).map (fun d => d.parameters.length) = some 0 := by decide +kernel
theorem gRL_106 : ∀ x ∈ wsV RL 106 RX6 yX6_found [Cond.code yX6_found cX6_found 1 (some .int)], x ∈ pm_tb := by decide +kernel
theorem vX6_found : yX6_found.cls = RX6 ∧ yX6_found.cls ≠ "java/lang/invoke/MethodHandle" ∧ yX6_found.cls ≠ "java/lang/invoke/VarHandle" ∧ (parseMethodDescriptor yX6_found.desc).map (fun d => d.parameters.length) = some 0 := by decide +kernel
theorem gRL_109 : ∀ x ∈ wsV RL 109 RX6 yX6_best [Cond.code yX6_best cX6_best 2 (some .int)], x ∈ pm_tb := by decide +kernel
theorem vX6_best : yX6_best.cls = RX6 ∧ yX6_best.cls ≠ "java/lang/invoke/MethodHandle" ∧ yX6_best.cls ≠ "java/lang/invoke/VarHandle" ∧ (parseMethodDescriptor yX6_best.desc).map (fun d => d.parameters.length) = some 1 := by decide +kernel
theorem gRL_112 : ∀ x ∈ wsV RL 112 RX6 yX6_split [Cond.code yX6_split cX6_split 3 (some .boolean)], x ∈ pm_tb := by decide +kernel
theorem vX6_split : yX6_split.cls = RX6 ∧ yX6_split.cls ≠ "java/lang/invoke/MethodHandle" ∧ yX6_split.cls ≠ "java/lang/invoke/VarHandle" ∧ (parseMethodDescriptor yX6_split.desc).map (fun d => d.parameters.length) = some 2 := by decide +kernel
theorem gRL_116 : ∀ x ∈ wsV RL 116 RX6 yX6_share [Cond.code yX6_share cX6_share 2 (some .float)], x ∈ pm_tb := by decide +kernel
theorem vX6_share : yX6_share.cls = RX6 ∧ yX6_share.cls ≠ "java/lang/invoke/MethodHandle" ∧ yX6_share.cls ≠ "java/lang/invoke/VarHandle" ∧ (parseMethodDescriptor yX6_share.desc).map (fun d => d.parameters.length) = some 1 := by decide +kernel
theorem gRL_119 : ∀ x ∈ wsV RL 119 RX6 yX6_distance [Cond.code yX6_distance cX6_distance 5 (some .int)], x ∈ pm_tb := by decide +kernel
theorem vX6_distance : yX6_distance.cls = RX6 ∧ yX6_distance.cls ≠ "java/lang/invoke/MethodHandle" ∧ yX6_distance.cls ≠ "java/lang/invoke/VarHandle" ∧ (parseMethodDescriptor yX6_distance.desc).map (fun d => d.parameters.length) = some 2 := by decide +kernel
theorem gRL_122 : ∀ x ∈ wsV RL 122 RX6 yX6_consistency [Cond.code yX6_consistency cX6_consistency 3 (some .float)], x ∈ pm_tb := by decide +kernel
theorem vX6_consistency : yX6_consistency.cls = RX6 ∧ yX6_consistency.cls ≠ "java/lang/invoke/MethodHandle" ∧ yX6_consistency.cls ≠ "java/lang/invoke/VarHandle" ∧ (parseMethodDescriptor yX6_consistency.desc).map (fun d => d.parameters.length) = some 1 := by decide +kernel
theorem gRL_125 : ∀ x ∈ wsV RL 125 RX6 yX6_retention [Cond.code yX6_retention cX6_retention 4 (some .float)], x ∈ pm_tb := by decide +kernel
theorem vX6_retention : yX6_retention.cls = RX6 ∧ yX6_retention.cls ≠ "java/lang/invoke/MethodHandle" ∧ yX6_retention.cls ≠ "java/lang/invoke/VarHandle" ∧ (parseMethodDescriptor yX6_retention.desc).map (fun d => d.parameters.length) = some 1 := by decide +kernel
theorem gRL_128 : ∀ x ∈ wsV RL 128 RX6 yX6_write [Cond.code yX6_write cX6_write 2 (some .int)], x ∈ pm_tb := by decide +kernel
theorem vX6_write : yX6_write.cls = RX6 ∧ yX6_write.cls ≠ "java/lang/invoke/MethodHandle" ∧ yX6_write.cls ≠ "java/lang/invoke/VarHandle" ∧ (parseMethodDescriptor yX6_write.desc).map (fun d => d.parameters.length) = some 1 := by decide +kernel
theorem gRL_133 : ∀ x ∈ wsV RL 133 RX6 yX6_common [Cond.code yX6_common cX6_common 4 (some .int)], x ∈ pm_tb := by decide +kernel
theorem vX6_common : yX6_common.cls = RX6 ∧ yX6_common.cls ≠ "java/lang/invoke/MethodHandle" ∧ yX6_common.cls ≠ "java/lang/invoke/VarHandle" ∧ (parseMethodDescriptor yX6_common.desc).map (fun d => d.parameters.length) = some 1 := by decide +kernel
theorem gRL_134 : ∀ x ∈ wsV RL 134 RX5 yX5_written [Cond.code yX5_written cX5_written 2 (some .char)], x ∈ pm_tb := by decide +kernel
theorem vX5_written : yX5_written.cls = RX5 ∧ yX5_written.cls ≠ "java/lang/invoke/MethodHandle" ∧ yX5_written.cls ≠ "java/lang/invoke/VarHandle" ∧ (parseMethodDescriptor yX5_written.desc).map (fun d => d.parameters.length) = some 1 := by decide +kernel
theorem gRL_138 : ∀ x ∈ wsV RL 138 RX6 yX6_written [Cond.code yX6_written cX6_written 2 (some .char)], x ∈ pm_tb := by decide +kernel
theorem vX6_written : yX6_written.cls = RX6 ∧ yX6_written.cls ≠ "java/lang/invoke/MethodHandle" ∧ yX6_written.cls ≠ "java/lang/invoke/VarHandle" ∧ (parseMethodDescriptor yX6_written.desc).map (fun d => d.parameters.length) = some 1 := by decide +kernel
end
section
def iX0_init : pm_I := ([(0, .aload_n 0, 1), (1, .invokespecial 3, 3), (4, .aload_n 0, 1), (5, .sipush 945, 3), (8, .newarray .int, 2), (10, .putfield 9, 3), (13, .aload_n 0, 1), (14, .sipush 128, 3), (17, .newarray .int, 2), (19, .putfield 15, 3), (22, .return_, 1)], [(9, false, 0, 0), (15, false, 0, 1)], [])
abbrev mX0_init : pm_M := (yX0_init, cX0_init, 1, none, RX0)
theorem kX0_init : pm_Ib mX0_init iX0_init = true := by decide +kernel
def iX0_forget : pm_I := ([(0, .aload_n 0, 1), (1, .iconst 0, 1), (2, .putfield 18, 3), (5, .return_, 1)], [(18, false, 0, 2)], [])
abbrev mX0_forget : pm_M := (yX0_forget, cX0_forget, 1, none, RX0)
theorem kX0_forget : pm_Ib mX0_forget iX0_forget = true := by decide +kernel
def iX0_gather : pm_I := ([(0, .aload_n 1, 1), (1, .invokevirtual 22, 3), (4, .istore_n 3, 1), (5, .iconst 0, 1), (6, .istore 4, 2), (8, .aload_n 0, 1), (9, .iconst 0, 1), (10, .putfield 18, 3), (13, .iconst 0, 1), (14, .istore 5, 2), (16, .iload 5, 2), (18, .iload_n 3, 1), (19, .if_icmp .ge 69, 3), (22, .aload_n 2, 1), (23, .iload 5, 2), (25, .aload_n 1, 1), (26, .invokevirtual 28, 3), (29, .istore 6, 2), (31, .aload_n 0, 1), (32, .getfield 18, 3), (35, .ifCond .eq 10, 3), (38, .iload 6, 2), (40, .iload 4, 2), (42, .if_icmp .ge 12, 3), (45, .iload 6, 2), (47, .istore 4, 2), (49, .aload_n 0, 1), (50, .iconst 0, 1), (51, .putfield 18, 3), (54, .iload 6, 2), (56, .iload 4, 2), (58, .if_icmp .ne 24, 3), (61, .aload_n 0, 1), (62, .getfield 9, 3), (65, .aload_n 0, 1), (66, .getfield 18, 3), (69, .iload 5, 2), (71, .iastore, 1), (72, .aload_n 0, 1), (73, .dup, 1), (74, .getfield 18, 3), (77, .iconst 1, 1), (78, .iadd, 1), (79, .putfield 18, 3), (82, .iinc 5 1, 3), (85, .goto (-69), 3), (88, .aload_n 0, 1), (89, .aload_n 1, 1), (90, .getfield 34, 3), (93, .aload_n 2, 1), (94, .invokevirtual 37, 3), (97, .iload 4, 2), (99, .ireturn, 1)], [(18, false, 0, 2), (9, false, 0, 0), (34, true, 2, 2)], [])
abbrev mX0_gather : pm_M := (yX0_gather, cX0_gather, 7, (some .int), RX0)
theorem kX0_gather : pm_Ib mX0_gather iX0_gather = true := by decide +kernel
def iX0_tallySplits : pm_I := ([(0, .aload_n 0, 1), (1, .getfield 15, 3), (4, .iconst 0, 1), (5, .invokestatic 41, 3), (8, .iconst 0, 1), (9, .istore_n 3, 1), (10, .iload_n 3, 1), (11, .aload_n 0, 1), (12, .getfield 18, 3), (15, .if_icmp .ge 53, 3), (18, .aload_n 2, 1), (19, .aload_n 0, 1), (20, .getfield 9, 3), (23, .iload_n 3, 1), (24, .iaload, 1), (25, .iload_n 1, 1), (26, .invokevirtual 47, 3), (29, .iconst 0, 1), (30, .istore 4, 2), (32, .iload 4, 2), (34, .aload_n 2, 1), (35, .invokevirtual 51, 3), (38, .if_icmp .ge 24, 3), (41, .aload_n 0, 1), (42, .getfield 15, 3), (45, .aload_n 2, 1), (46, .iload 4, 2), (48, .invokevirtual 54, 3), (51, .dup2, 1), (52, .iaload, 1), (53, .iconst 1, 1), (54, .iadd, 1), (55, .iastore, 1), (56, .iinc 4 1, 3), (59, .goto (-27), 3), (62, .iinc 3 1, 3), (65, .goto (-55), 3), (68, .return_, 1)], [(15, false, 0, 1), (18, false, 0, 2), (9, false, 0, 0)], [])
abbrev mX0_tallySplits : pm_M := (yX0_tallySplits, cX0_tallySplits, 5, none, RX0)
theorem kX0_tallySplits : pm_Ib mX0_tallySplits iX0_tallySplits = true := by decide +kernel
def iX0_shareOf : pm_I := ([(0, .iload_n 1, 1), (1, .ifCond .lt 17, 3), (4, .iload_n 1, 1), (5, .sipush 128, 3), (8, .if_icmp .ge 10, 3), (11, .aload_n 0, 1), (12, .getfield 18, 3), (15, .ifCond .ne 5, 3), (18, .fconst 0, 1), (19, .freturn, 1), (20, .aload_n 0, 1), (21, .getfield 15, 3), (24, .iload_n 1, 1), (25, .iaload, 1), (26, .i2f, 1), (27, .aload_n 0, 1), (28, .getfield 18, 3), (31, .i2f, 1), (32, .fdiv, 1), (33, .freturn, 1)], [(18, false, 0, 2), (15, false, 0, 1)], [])
abbrev mX0_shareOf : pm_M := (yX0_shareOf, cX0_shareOf, 2, (some .float), RX0)
theorem kX0_shareOf : pm_Ib mX0_shareOf iX0_shareOf = true := by decide +kernel
theorem gRX0_22 : ∀ x ∈ wsV RX0 22 RX2 yX2_treeCount [Cond.code yX2_treeCount cX2_treeCount 3 (some .int)], x ∈ pm_tb := by decide +kernel
theorem vX2_treeCount : yX2_treeCount.cls = RX2 ∧ yX2_treeCount.cls ≠ "java/lang/invoke/MethodHandle" ∧ yX2_treeCount.cls ≠ "java/lang/invoke/VarHandle" ∧ (parseMethodDescriptor yX2_treeCount.desc).map (fun d => d.parameters.length) = some 0 := by decide +kernel
theorem gRX0_28 : ∀ x ∈ wsV RX0 28 RX4 yX4_growAndMeasure [Cond.code yX4_growAndMeasure cX4_growAndMeasure 3 (some .int)], x ∈ pm_tb := by decide +kernel
theorem vX4_growAndMeasure : yX4_growAndMeasure.cls = RX4 ∧ yX4_growAndMeasure.cls ≠ "java/lang/invoke/MethodHandle" ∧ yX4_growAndMeasure.cls ≠ "java/lang/invoke/VarHandle" ∧ (parseMethodDescriptor yX4_growAndMeasure.desc).map (fun d => d.parameters.length) = some 2 := by decide +kernel
theorem gRX0_37 : ∀ x ∈ wsV RX0 37 RX0 yX0_tallySplits [Cond.code yX0_tallySplits cX0_tallySplits 5 none], x ∈ pm_tb := by decide +kernel
theorem vX0_tallySplits : yX0_tallySplits.cls = RX0 ∧ yX0_tallySplits.cls ≠ "java/lang/invoke/MethodHandle" ∧ yX0_tallySplits.cls ≠ "java/lang/invoke/VarHandle" ∧ (parseMethodDescriptor yX0_tallySplits.desc).map (fun d => d.parameters.length) = some 2 := by decide +kernel
theorem gRX0_41 : ∀ x ∈ [Cond.methodLink RX0 41 yJ7_fill_53178, Cond.static yJ7_fill_53178, Cond.initialized yJ7_fill_53178.cls, Cond.code yJ7_fill_53178 cJ7_fill_53178 4 none], x ∈ pm_tb := by decide +kernel
theorem vJ7_fill_53178 : yJ7_fill_53178.cls ≠ "java/lang/invoke/MethodHandle" ∧ yJ7_fill_53178.cls ≠ "java/lang/invoke/VarHandle" ∧ (parseMethodDescriptor yJ7_fill_53178.desc).map (fun d => d.parameters.length) = some 2 := by decide +kernel
theorem gRX0_47 : ∀ x ∈ wsV RX0 47 RX4 yX4_grow [Cond.code yX4_grow cX4_grow 4 none], x ∈ pm_tb := by decide +kernel
theorem vX4_grow : yX4_grow.cls = RX4 ∧ yX4_grow.cls ≠ "java/lang/invoke/MethodHandle" ∧ yX4_grow.cls ≠ "java/lang/invoke/VarHandle" ∧ (parseMethodDescriptor yX4_grow.desc).map (fun d => d.parameters.length) = some 2 := by decide +kernel
theorem gRX0_51 : ∀ x ∈ wsV RX0 51 RX4 yX4_splitCount [Cond.code yX4_splitCount cX4_splitCount 1 (some .int)], x ∈ pm_tb := by decide +kernel
theorem vX4_splitCount : yX4_splitCount.cls = RX4 ∧ yX4_splitCount.cls ≠ "java/lang/invoke/MethodHandle" ∧ yX4_splitCount.cls ≠ "java/lang/invoke/VarHandle" ∧ (parseMethodDescriptor yX4_splitCount.desc).map (fun d => d.parameters.length) = some 0 := by decide +kernel
theorem gRX0_54 : ∀ x ∈ wsV RX0 54 RX4 yX4_splitAt [Cond.code yX4_splitAt cX4_splitAt 2 (some .int)], x ∈ pm_tb := by decide +kernel
theorem vX4_splitAt : yX4_splitAt.cls = RX4 ∧ yX4_splitAt.cls ≠ "java/lang/invoke/MethodHandle" ∧ yX4_splitAt.cls ≠ "java/lang/invoke/VarHandle" ∧ (parseMethodDescriptor yX4_splitAt.desc).map (fun d => d.parameters.length) = some 1 := by decide +kernel
end
section
def iX1_init : pm_I := ([(0, .aload_n 0, 1), (1, .invokespecial 3, 3), (4, .aload_n 0, 1), (5, .bipush 24, 2), (7, .newarray .char, 2), (9, .putfield 9, 3), (12, .aload_n 0, 1), (13, .bipush 7, 2), (15, .newarray .int, 2), (17, .putfield 15, 3), (20, .return_, 1)], [(9, false, 1, 0), (15, false, 1, 1)], [])
abbrev mX1_init : pm_M := (yX1_init, cX1_init, 1, none, RX1)
theorem kX1_init : pm_Ib mX1_init iX1_init = true := by decide +kernel
def iX1_forgetGroups : pm_I := ([(0, .aload_n 0, 1), (1, .iconst 0, 1), (2, .putfield 19, 3), (5, .return_, 1)], [(19, false, 1, 3)], [])
abbrev mX1_forgetGroups : pm_M := (yX1_forgetGroups, cX1_forgetGroups, 1, none, RX1)
theorem kX1_forgetGroups : pm_Ib mX1_forgetGroups iX1_forgetGroups = true := by decide +kernel
def iX1_addGroup : pm_I := ([(0, .aload_n 0, 1), (1, .getfield 19, 3), (4, .bipush 7, 2), (6, .if_icmp .ge 23, 3), (9, .aload_n 0, 1), (10, .getfield 15, 3), (13, .aload_n 0, 1), (14, .getfield 19, 3), (17, .iload_n 1, 1), (18, .iastore, 1), (19, .aload_n 0, 1), (20, .dup, 1), (21, .getfield 19, 3), (24, .iconst 1, 1), (25, .iadd, 1), (26, .putfield 19, 3), (29, .return_, 1)], [(19, false, 1, 3), (15, false, 1, 1)], [])
abbrev mX1_addGroup : pm_M := (yX1_addGroup, cX1_addGroup, 2, none, RX1)
theorem kX1_addGroup : pm_Ib mX1_addGroup iX1_addGroup = true := by decide +kernel
def iX1_fill : pm_I := ([(0, .aload_n 0, 1), (1, .iconst 0, 1), (2, .putfield 23, 3), (5, .aload_n 0, 1), (6, .bipush 40, 2), (8, .invokevirtual 26, 3), (11, .aload_n 0, 1), (12, .bipush 97, 2), (14, .invokevirtual 26, 3), (17, .aload_n 0, 1), (18, .bipush 44, 2), (20, .invokevirtual 26, 3), (23, .aload_n 0, 1), (24, .iconst 1, 1), (25, .iload_n 1, 1), (26, .ishl, 1), (27, .iconst 2, 1), (28, .isub, 1), (29, .iconst 0, 1), (30, .invokevirtual 30, 3), (33, .aload_n 0, 1), (34, .bipush 41, 2), (36, .invokevirtual 26, 3), (39, .aload_n 0, 1), (40, .bipush 59, 2), (42, .invokevirtual 26, 3), (45, .aload_n 0, 1), (46, .getfield 23, 3), (49, .ireturn, 1)], [(23, false, 1, 2)], [])
abbrev mX1_fill : pm_M := (yX1_fill, cX1_fill, 2, (some .int), RX1)
theorem kX1_fill : pm_Ib mX1_fill iX1_fill = true := by decide +kernel
def iX1_putSideBySide : pm_I := ([(0, .iload_n 2, 1), (1, .bipush 7, 2), (3, .if_icmp .lt 4, 3), (6, .return_, 1), (7, .iload_n 1, 1), (8, .istore_n 3, 1), (9, .iconst 0, 1), (10, .istore 4, 2), (12, .iload 4, 2), (14, .bipush 7, 2), (16, .if_icmp .ge 92, 3), (19, .iload_n 3, 1), (20, .iload 4, 2), (22, .ishr, 1), (23, .iconst 1, 1), (24, .iand, 1), (25, .ifCond .ne 6, 3), (28, .goto 74, 3), (31, .iload_n 3, 1), (32, .iload_n 1, 1), (33, .if_icmp .eq 9, 3), (36, .aload_n 0, 1), (37, .bipush 44, 2), (39, .invokevirtual 26, 3), (42, .aload_n 0, 1), (43, .iload 4, 2), (45, .iload_n 1, 1), (46, .invokevirtual 34, 3), (49, .istore 5, 2), (51, .iload 5, 2), (53, .ifCond .ne 16, 3), (56, .aload_n 0, 1), (57, .bipush 97, 2), (59, .iload 4, 2), (61, .iadd, 1), (62, .i2c, 1), (63, .invokevirtual 26, 3), (66, .goto 24, 3), (69, .aload_n 0, 1), (70, .bipush 40, 2), (72, .invokevirtual 26, 3), (75, .aload_n 0, 1), (76, .iload 5, 2), (78, .iload_n 2, 1), (79, .iconst 1, 1), (80, .iadd, 1), (81, .invokevirtual 30, 3), (84, .aload_n 0, 1), (85, .bipush 41, 2), (87, .invokevirtual 26, 3), (90, .iload_n 3, 1), (91, .iload 5, 2), (93, .iconst 1, 1), (94, .iload 4, 2), (96, .ishl, 1), (97, .ior, 1), (98, .iconst (-1), 1), (99, .ixor, 1), (100, .iand, 1), (101, .istore_n 3, 1), (102, .iinc 4 1, 3), (105, .goto (-93), 3), (108, .return_, 1)], [], [])
abbrev mX1_putSideBySide : pm_M := (yX1_putSideBySide, cX1_putSideBySide, 6, none, RX1)
theorem kX1_putSideBySide : pm_Ib mX1_putSideBySide iX1_putSideBySide = true := by decide +kernel
def iX1_widestGroup : pm_I := ([(0, .iconst 0, 1), (1, .istore_n 3, 1), (2, .iconst 0, 1), (3, .istore 4, 2), (5, .iload 4, 2), (7, .aload_n 0, 1), (8, .getfield 19, 3), (11, .if_icmp .ge 61, 3), (14, .aload_n 0, 1), (15, .getfield 15, 3), (18, .iload 4, 2), (20, .iaload, 1), (21, .istore 5, 2), (23, .iload 5, 2), (25, .iload_n 2, 1), (26, .iand, 1), (27, .iload 5, 2), (29, .if_icmp .ne 13, 3), (32, .iload 5, 2), (34, .iload_n 2, 1), (35, .if_icmp .eq 7, 3), (38, .iconst 1, 1), (39, .goto 4, 3), (42, .iconst 0, 1), (43, .istore 6, 2), (45, .iload 6, 2), (47, .ifCond .eq 19, 3), (50, .iload 5, 2), (52, .iload_n 1, 1), (53, .ishr, 1), (54, .iconst 1, 1), (55, .iand, 1), (56, .ifCond .eq 10, 3), (59, .iload_n 3, 1), (60, .iload 5, 2), (62, .invokestatic 38, 3), (65, .istore_n 3, 1), (66, .iinc 4 1, 3), (69, .goto (-64), 3), (72, .iload_n 3, 1), (73, .ireturn, 1)], [(19, false, 1, 3), (15, false, 1, 1)], [])
abbrev mX1_widestGroup : pm_M := (yX1_widestGroup, cX1_widestGroup, 7, (some .int), RX1)
theorem kX1_widestGroup : pm_Ib mX1_widestGroup iX1_widestGroup = true := by decide +kernel
def iX1_put : pm_I := ([(0, .aload_n 0, 1), (1, .getfield 23, 3), (4, .bipush 24, 2), (6, .if_icmp .ge 23, 3), (9, .aload_n 0, 1), (10, .getfield 9, 3), (13, .aload_n 0, 1), (14, .getfield 23, 3), (17, .iload_n 1, 1), (18, .castore, 1), (19, .aload_n 0, 1), (20, .dup, 1), (21, .getfield 23, 3), (24, .iconst 1, 1), (25, .iadd, 1), (26, .putfield 23, 3), (29, .return_, 1)], [(23, false, 1, 2), (9, false, 1, 0)], [])
abbrev mX1_put : pm_M := (yX1_put, cX1_put, 2, none, RX1)
theorem kX1_put : pm_Ib mX1_put iX1_put = true := by decide +kernel
def iX1_signAt : pm_I := ([(0, .iload_n 1, 1), (1, .ifCond .lt 20, 3), (4, .iload_n 1, 1), (5, .aload_n 0, 1), (6, .getfield 23, 3), (9, .if_icmp .ge 12, 3), (12, .aload_n 0, 1), (13, .getfield 9, 3), (16, .iload_n 1, 1), (17, .caload, 1), (18, .goto 4, 3), (21, .iconst 0, 1), (22, .ireturn, 1)], [(23, false, 1, 2), (9, false, 1, 0)], [])
abbrev mX1_signAt : pm_M := (yX1_signAt, cX1_signAt, 2, (some .char), RX1)
theorem kX1_signAt : pm_Ib mX1_signAt iX1_signAt = true := by decide +kernel
theorem gRX1_26 : ∀ x ∈ wsV RX1 26 RX1 yX1_put [Cond.code yX1_put cX1_put 2 none], x ∈ pm_tb := by decide +kernel
theorem vX1_put : yX1_put.cls = RX1 ∧ yX1_put.cls ≠ "java/lang/invoke/MethodHandle" ∧ yX1_put.cls ≠ "java/lang/invoke/VarHandle" ∧ (parseMethodDescriptor yX1_put.desc).map (fun d => d.parameters.length) = some 1 := by decide +kernel
theorem gRX1_30 : ∀ x ∈ wsV RX1 30 RX1 yX1_putSideBySide [Cond.code yX1_putSideBySide cX1_putSideBySide 6 none], x ∈ pm_tb := by decide +kernel
theorem vX1_putSideBySide : yX1_putSideBySide.cls = RX1 ∧ yX1_putSideBySide.cls ≠ "java/lang/invoke/MethodHandle" ∧ yX1_putSideBySide.cls ≠ "java/lang/invoke/VarHandle" ∧ (parseMethodDescriptor yX1_putSideBySide.desc).map (fun d => d.parameters.length) = some 2 := by decide +kernel
theorem gRX1_34 : ∀ x ∈ wsV RX1 34 RX1 yX1_widestGroup [Cond.code yX1_widestGroup cX1_widestGroup 7 (some .int)], x ∈ pm_tb := by decide +kernel
theorem vX1_widestGroup : yX1_widestGroup.cls = RX1 ∧ yX1_widestGroup.cls ≠ "java/lang/invoke/MethodHandle" ∧ yX1_widestGroup.cls ≠ "java/lang/invoke/VarHandle" ∧ (parseMethodDescriptor yX1_widestGroup.desc).map (fun d => d.parameters.length) = some 2 := by decide +kernel
theorem gRX1_38 : ∀ x ∈ [Cond.methodLink RX1 38 yJ9_max_7cf53, Cond.static yJ9_max_7cf53, Cond.initialized yJ9_max_7cf53.cls, Cond.code yJ9_max_7cf53 cJ9_max_7cf53 2 (some .int)], x ∈ pm_tb := by decide +kernel
theorem vJ9_max_7cf53 : yJ9_max_7cf53.cls ≠ "java/lang/invoke/MethodHandle" ∧ yJ9_max_7cf53.cls ≠ "java/lang/invoke/VarHandle" ∧ (parseMethodDescriptor yJ9_max_7cf53.desc).map (fun d => d.parameters.length) = some 2 := by decide +kernel
end
section
def iX2_init : pm_I := ([(0, .aload_n 0, 1), (1, .invokespecial 3, 3), (4, .aload_n 0, 1), (5, .bipush 7, 2), (7, .newarray .long, 2), (9, .putfield 9, 3), (12, .aload_n 0, 1), (13, .bipush 16, 2), (15, .newarray .int, 2), (17, .putfield 15, 3), (20, .return_, 1)], [(9, false, 2, 0), (15, false, 2, 1)], [])
abbrev mX2_init : pm_M := (yX2_init, cX2_init, 1, none, RX2)
theorem kX2_init : pm_Ib mX2_init iX2_init = true := by decide +kernel
def iX2_clear : pm_I := ([(0, .aload_n 0, 1), (1, .iconst 0, 1), (2, .putfield 19, 3), (5, .aload_n 0, 1), (6, .iconst 0, 1), (7, .putfield 23, 3), (10, .aload_n 0, 1), (11, .getfield 9, 3), (14, .lconst 0, 1), (15, .invokestatic 26, 3), (18, .aload_n 0, 1), (19, .getfield 15, 3), (22, .iconst 1, 1), (23, .invokestatic 32, 3), (26, .return_, 1)], [(19, false, 2, 2), (23, false, 2, 3), (9, false, 2, 0), (15, false, 2, 1)], [])
abbrev mX2_clear : pm_M := (yX2_clear, cX2_clear, 1, none, RX2)
theorem kX2_clear : pm_Ib mX2_clear iX2_clear = true := by decide +kernel
def iX2_put : pm_I := ([(0, .aload_n 0, 1), (1, .getfield 9, 3), (4, .iload_n 1, 1), (5, .dup2, 1), (6, .laload, 1), (7, .iload_n 3, 1), (8, .i2l, 1), (9, .iconst 4, 1), (10, .iload_n 2, 1), (11, .imul, 1), (12, .lshl, 1), (13, .lor, 1), (14, .lastore, 1), (15, .return_, 1)], [(9, false, 2, 0)], [])
abbrev mX2_put : pm_M := (yX2_put, cX2_put, 4, none, RX2)
theorem kX2_put : pm_Ib mX2_put iX2_put = true := by decide +kernel
def iX2_hasCharacter : pm_I := ([(0, .iload_n 1, 1), (1, .ifCond .lt 15, 3), (4, .iload_n 1, 1), (5, .aload_n 0, 1), (6, .getfield 23, 3), (9, .if_icmp .ge 7, 3), (12, .iconst 1, 1), (13, .goto 4, 3), (16, .iconst 0, 1), (17, .ireturn, 1)], [(23, false, 2, 3)], [])
abbrev mX2_hasCharacter : pm_M := (yX2_hasCharacter, cX2_hasCharacter, 2, (some .boolean), RX2)
theorem kX2_hasCharacter : pm_Ib mX2_hasCharacter iX2_hasCharacter = true := by decide +kernel
def iX2_setOf : pm_I := ([(0, .aload_n 0, 1), (1, .aload_n 0, 1), (2, .getfield 9, 3), (5, .iload_n 1, 1), (6, .laload, 1), (7, .iload_n 2, 1), (8, .invokevirtual 35, 3), (11, .ireturn, 1)], [(9, false, 2, 0)], [])
abbrev mX2_setOf : pm_M := (yX2_setOf, cX2_setOf, 3, (some .int), RX2)
theorem kX2_setOf : pm_Ib mX2_setOf iX2_setOf = true := by decide +kernel
def iX2_bitsOf : pm_I := ([(0, .lload_n 1, 1), (1, .iconst 4, 1), (2, .iload_n 3, 1), (3, .imul, 1), (4, .lushr, 1), (5, .l2i, 1), (6, .bipush 15, 2), (8, .iand, 1), (9, .ireturn, 1)], [], [])
abbrev mX2_bitsOf : pm_M := (yX2_bitsOf, cX2_bitsOf, 4, (some .int), RX2)
theorem kX2_bitsOf : pm_Ib mX2_bitsOf iX2_bitsOf = true := by decide +kernel
def iX2_treeCount : pm_I := ([(0, .aload_n 0, 1), (1, .getfield 19, 3), (4, .iconst 3, 1), (5, .if_icmp .ge 5, 3), (8, .iconst 0, 1), (9, .ireturn, 1), (10, .iconst 1, 1), (11, .istore_n 1, 1), (12, .iconst 3, 1), (13, .istore_n 2, 1), (14, .iload_n 2, 1), (15, .aload_n 0, 1), (16, .getfield 19, 3), (19, .if_icmp .ge 17, 3), (22, .iload_n 1, 1), (23, .iconst 2, 1), (24, .iload_n 2, 1), (25, .imul, 1), (26, .iconst 3, 1), (27, .isub, 1), (28, .imul, 1), (29, .istore_n 1, 1), (30, .iinc 2 1, 3), (33, .goto (-19), 3), (36, .iload_n 1, 1), (37, .ireturn, 1)], [(19, false, 2, 2)], [])
abbrev mX2_treeCount : pm_M := (yX2_treeCount, cX2_treeCount, 3, (some .int), RX2)
theorem kX2_treeCount : pm_Ib mX2_treeCount iX2_treeCount = true := by decide +kernel
def iX2_weighed : pm_I := ([(0, .iconst 0, 1), (1, .istore_n 3, 1), (2, .iconst 0, 1), (3, .istore 4, 2), (5, .iload 4, 2), (7, .aload_n 0, 1), (8, .getfield 23, 3), (11, .if_icmp .ge 27, 3), (14, .iload_n 3, 1), (15, .aload_n 0, 1), (16, .lload_n 1, 1), (17, .iload 4, 2), (19, .invokevirtual 35, 3), (22, .aload_n 0, 1), (23, .getfield 15, 3), (26, .iload 4, 2), (28, .iaload, 1), (29, .imul, 1), (30, .iadd, 1), (31, .istore_n 3, 1), (32, .iinc 4 1, 3), (35, .goto (-30), 3), (38, .iload_n 3, 1), (39, .ireturn, 1)], [(23, false, 2, 3), (15, false, 2, 1)], [])
abbrev mX2_weighed : pm_M := (yX2_weighed, cX2_weighed, 5, (some .int), RX2)
theorem kX2_weighed : pm_Ib mX2_weighed iX2_weighed = true := by decide +kernel
def iX2_least : pm_I := ([(0, .iconst 0, 1), (1, .istore_n 1, 1), (2, .iconst 0, 1), (3, .istore_n 2, 1), (4, .iload_n 2, 1), (5, .aload_n 0, 1), (6, .getfield 23, 3), (9, .if_icmp .ge 26, 3), (12, .iload_n 1, 1), (13, .aload_n 0, 1), (14, .iload_n 2, 1), (15, .invokevirtual 39, 3), (18, .iconst 1, 1), (19, .isub, 1), (20, .aload_n 0, 1), (21, .getfield 15, 3), (24, .iload_n 2, 1), (25, .iaload, 1), (26, .imul, 1), (27, .iadd, 1), (28, .istore_n 1, 1), (29, .iinc 2 1, 3), (32, .goto (-28), 3), (35, .iload_n 1, 1), (36, .ireturn, 1)], [(23, false, 2, 3), (15, false, 2, 1)], [])
abbrev mX2_least : pm_M := (yX2_least, cX2_least, 3, (some .int), RX2)
theorem kX2_least : pm_Ib mX2_least iX2_least = true := by decide +kernel
def iX2_most : pm_I := ([(0, .iconst 0, 1), (1, .istore_n 1, 1), (2, .iconst 0, 1), (3, .istore_n 2, 1), (4, .iload_n 2, 1), (5, .aload_n 0, 1), (6, .getfield 23, 3), (9, .if_icmp .ge 29, 3), (12, .iload_n 1, 1), (13, .aload_n 0, 1), (14, .getfield 19, 3), (17, .aload_n 0, 1), (18, .iload_n 2, 1), (19, .invokevirtual 43, 3), (22, .isub, 1), (23, .aload_n 0, 1), (24, .getfield 15, 3), (27, .iload_n 2, 1), (28, .iaload, 1), (29, .imul, 1), (30, .iadd, 1), (31, .istore_n 1, 1), (32, .iinc 2 1, 3), (35, .goto (-31), 3), (38, .iload_n 1, 1), (39, .ireturn, 1)], [(23, false, 2, 3), (19, false, 2, 2), (15, false, 2, 1)], [])
abbrev mX2_most : pm_M := (yX2_most, cX2_most, 3, (some .int), RX2)
theorem kX2_most : pm_Ib mX2_most iX2_most = true := by decide +kernel
def iX2_fewestStates : pm_I := ([(0, .iconst 4, 1), (1, .istore_n 2, 1), (2, .iconst 1, 1), (3, .istore_n 3, 1), (4, .iload_n 3, 1), (5, .bipush 15, 2), (7, .if_icmp .gt 27, 3), (10, .aload_n 0, 1), (11, .iload_n 3, 1), (12, .iload_n 1, 1), (13, .invokevirtual 46, 3), (16, .ifCond .eq 12, 3), (19, .iload_n 2, 1), (20, .iload_n 3, 1), (21, .invokestatic 50, 3), (24, .invokestatic 55, 3), (27, .istore_n 2, 1), (28, .iinc 3 1, 3), (31, .goto (-27), 3), (34, .iload_n 2, 1), (35, .ireturn, 1)], [], [])
abbrev mX2_fewestStates : pm_M := (yX2_fewestStates, cX2_fewestStates, 4, (some .int), RX2)
theorem kX2_fewestStates : pm_Ib mX2_fewestStates iX2_fewestStates = true := by decide +kernel
def iX2_meetsEveryKind : pm_I := ([(0, .iconst 0, 1), (1, .istore_n 3, 1), (2, .iload_n 3, 1), (3, .aload_n 0, 1), (4, .getfield 19, 3), (7, .if_icmp .ge 22, 3), (10, .aload_n 0, 1), (11, .iload_n 3, 1), (12, .iload_n 2, 1), (13, .invokevirtual 61, 3), (16, .iload_n 1, 1), (17, .iand, 1), (18, .ifCond .ne 5, 3), (21, .iconst 0, 1), (22, .ireturn, 1), (23, .iinc 3 1, 3), (26, .goto (-24), 3), (29, .iconst 1, 1), (30, .ireturn, 1)], [(19, false, 2, 2)], [])
abbrev mX2_meetsEveryKind : pm_M := (yX2_meetsEveryKind, cX2_meetsEveryKind, 4, (some .boolean), RX2)
theorem kX2_meetsEveryKind : pm_Ib mX2_meetsEveryKind iX2_meetsEveryKind = true := by decide +kernel
def iX2_mostAlike : pm_I := ([(0, .iconst 0, 1), (1, .istore_n 2, 1), (2, .iconst 0, 1), (3, .istore_n 3, 1), (4, .iload_n 3, 1), (5, .iconst 4, 1), (6, .if_icmp .ge 53, 3), (9, .iconst 0, 1), (10, .istore 4, 2), (12, .iconst 0, 1), (13, .istore 5, 2), (15, .iload 5, 2), (17, .aload_n 0, 1), (18, .getfield 19, 3), (21, .if_icmp .ge 25, 3), (24, .iload 4, 2), (26, .aload_n 0, 1), (27, .iload 5, 2), (29, .iload_n 1, 1), (30, .invokevirtual 61, 3), (33, .iload_n 3, 1), (34, .ishr, 1), (35, .iconst 1, 1), (36, .iand, 1), (37, .iadd, 1), (38, .istore 4, 2), (40, .iinc 5 1, 3), (43, .goto (-28), 3), (46, .iload_n 2, 1), (47, .iload 4, 2), (49, .invokestatic 64, 3), (52, .istore_n 2, 1), (53, .iinc 3 1, 3), (56, .goto (-52), 3), (59, .iload_n 2, 1), (60, .ireturn, 1)], [(19, false, 2, 2)], [])
abbrev mX2_mostAlike : pm_M := (yX2_mostAlike, cX2_mostAlike, 6, (some .int), RX2)
theorem kX2_mostAlike : pm_Ib mX2_mostAlike iX2_mostAlike = true := by decide +kernel
theorem gRX2_26 : ∀ x ∈ [Cond.methodLink RX2 26 yJ7_fill_d0a16, Cond.static yJ7_fill_d0a16, Cond.initialized yJ7_fill_d0a16.cls, Cond.code yJ7_fill_d0a16 cJ7_fill_d0a16 5 none], x ∈ pm_tb := by decide +kernel
theorem vJ7_fill_d0a16 : yJ7_fill_d0a16.cls ≠ "java/lang/invoke/MethodHandle" ∧ yJ7_fill_d0a16.cls ≠ "java/lang/invoke/VarHandle" ∧ (parseMethodDescriptor yJ7_fill_d0a16.desc).map (fun d => d.parameters.length) = some 2 := by decide +kernel
theorem gRX2_32 : ∀ x ∈ [Cond.methodLink RX2 32 yJ7_fill_53178, Cond.static yJ7_fill_53178, Cond.initialized yJ7_fill_53178.cls, Cond.code yJ7_fill_53178 cJ7_fill_53178 4 none], x ∈ pm_tb := by decide +kernel
theorem gRX2_35 : ∀ x ∈ wsV RX2 35 RX2 yX2_bitsOf [Cond.code yX2_bitsOf cX2_bitsOf 4 (some .int)], x ∈ pm_tb := by decide +kernel
theorem vX2_bitsOf : yX2_bitsOf.cls = RX2 ∧ yX2_bitsOf.cls ≠ "java/lang/invoke/MethodHandle" ∧ yX2_bitsOf.cls ≠ "java/lang/invoke/VarHandle" ∧ (parseMethodDescriptor yX2_bitsOf.desc).map (fun d => d.parameters.length) = some 2 := by decide +kernel
theorem gRX2_39 : ∀ x ∈ wsV RX2 39 RX2 yX2_fewestStates [Cond.code yX2_fewestStates cX2_fewestStates 4 (some .int)], x ∈ pm_tb := by decide +kernel
theorem vX2_fewestStates : yX2_fewestStates.cls = RX2 ∧ yX2_fewestStates.cls ≠ "java/lang/invoke/MethodHandle" ∧ yX2_fewestStates.cls ≠ "java/lang/invoke/VarHandle" ∧ (parseMethodDescriptor yX2_fewestStates.desc).map (fun d => d.parameters.length) = some 1 := by decide +kernel
theorem gRX2_43 : ∀ x ∈ wsV RX2 43 RX2 yX2_mostAlike [Cond.code yX2_mostAlike cX2_mostAlike 6 (some .int)], x ∈ pm_tb := by decide +kernel
theorem vX2_mostAlike : yX2_mostAlike.cls = RX2 ∧ yX2_mostAlike.cls ≠ "java/lang/invoke/MethodHandle" ∧ yX2_mostAlike.cls ≠ "java/lang/invoke/VarHandle" ∧ (parseMethodDescriptor yX2_mostAlike.desc).map (fun d => d.parameters.length) = some 1 := by decide +kernel
theorem gRX2_46 : ∀ x ∈ wsV RX2 46 RX2 yX2_meetsEveryKind [Cond.code yX2_meetsEveryKind cX2_meetsEveryKind 4 (some .boolean)], x ∈ pm_tb := by decide +kernel
theorem vX2_meetsEveryKind : yX2_meetsEveryKind.cls = RX2 ∧ yX2_meetsEveryKind.cls ≠ "java/lang/invoke/MethodHandle" ∧ yX2_meetsEveryKind.cls ≠ "java/lang/invoke/VarHandle" ∧ (parseMethodDescriptor yX2_meetsEveryKind.desc).map (fun d => d.parameters.length) = some 2 := by decide +kernel
theorem gRX2_50 : ∀ x ∈ [Cond.methodLink RX2 50 yJ6_bitCount_0f7a4, Cond.static yJ6_bitCount_0f7a4, Cond.initialized yJ6_bitCount_0f7a4.cls, Cond.code yJ6_bitCount_0f7a4 cJ6_bitCount_0f7a4 1 (some .int)], x ∈ pm_tb := by decide +kernel
theorem vJ6_bitCount_0f7a4 : yJ6_bitCount_0f7a4.cls ≠ "java/lang/invoke/MethodHandle" ∧ yJ6_bitCount_0f7a4.cls ≠ "java/lang/invoke/VarHandle" ∧ (parseMethodDescriptor yJ6_bitCount_0f7a4.desc).map (fun d => d.parameters.length) = some 1 := by decide +kernel
theorem gRX2_55 : ∀ x ∈ [Cond.methodLink RX2 55 yJ9_min_7cf53, Cond.static yJ9_min_7cf53, Cond.initialized yJ9_min_7cf53.cls, Cond.code yJ9_min_7cf53 cJ9_min_7cf53 2 (some .int)], x ∈ pm_tb := by decide +kernel
theorem vJ9_min_7cf53 : yJ9_min_7cf53.cls ≠ "java/lang/invoke/MethodHandle" ∧ yJ9_min_7cf53.cls ≠ "java/lang/invoke/VarHandle" ∧ (parseMethodDescriptor yJ9_min_7cf53.desc).map (fun d => d.parameters.length) = some 2 := by decide +kernel
theorem gRX2_61 : ∀ x ∈ wsV RX2 61 RX2 yX2_setOf [Cond.code yX2_setOf cX2_setOf 3 (some .int)], x ∈ pm_tb := by decide +kernel
theorem vX2_setOf : yX2_setOf.cls = RX2 ∧ yX2_setOf.cls ≠ "java/lang/invoke/MethodHandle" ∧ yX2_setOf.cls ≠ "java/lang/invoke/VarHandle" ∧ (parseMethodDescriptor yX2_setOf.desc).map (fun d => d.parameters.length) = some 2 := by decide +kernel
theorem gRX2_64 : ∀ x ∈ [Cond.methodLink RX2 64 yJ9_max_7cf53, Cond.static yJ9_max_7cf53, Cond.initialized yJ9_max_7cf53.cls, Cond.code yJ9_max_7cf53 cJ9_max_7cf53 2 (some .int)], x ∈ pm_tb := by decide +kernel
end
section
def iX3_init : pm_I := ([(0, .aload_n 0, 1), (1, .invokespecial 3, 3), (4, .aload_n 0, 1), (5, .sipush 160, 3), (8, .newarray .char, 2), (10, .putfield 9, 3), (13, .return_, 1)], [(9, false, 3, 0)], [])
abbrev mX3_init : pm_M := (yX3_init, cX3_init, 1, none, RX3)
theorem kX3_init : pm_Ib mX3_init iX3_init = true := by decide +kernel
def iX3_isFull : pm_I := ([(0, .aload_n 0, 1), (1, .getfield 15, 3), (4, .sipush 160, 3), (7, .if_icmp .lt 7, 3), (10, .iconst 1, 1), (11, .goto 4, 3), (14, .iconst 0, 1), (15, .ireturn, 1)], [(15, false, 3, 1)], [])
abbrev mX3_isFull : pm_M := (yX3_isFull, cX3_isFull, 1, (some .boolean), RX3)
theorem kX3_isFull : pm_Ib mX3_isFull iX3_isFull = true := by decide +kernel
def iX3_add : pm_I := ([(0, .aload_n 0, 1), (1, .getfield 15, 3), (4, .sipush 160, 3), (7, .if_icmp .ge 23, 3), (10, .aload_n 0, 1), (11, .getfield 9, 3), (14, .aload_n 0, 1), (15, .getfield 15, 3), (18, .iload_n 1, 1), (19, .castore, 1), (20, .aload_n 0, 1), (21, .dup, 1), (22, .getfield 15, 3), (25, .iconst 1, 1), (26, .iadd, 1), (27, .putfield 15, 3), (30, .aload_n 0, 1), (31, .getfield 15, 3), (34, .ireturn, 1)], [(15, false, 3, 1), (9, false, 3, 0)], [])
abbrev mX3_add : pm_M := (yX3_add, cX3_add, 2, (some .int), RX3)
theorem kX3_add : pm_Ib mX3_add iX3_add = true := by decide +kernel
def iX3_empty : pm_I := ([(0, .aload_n 0, 1), (1, .iconst 0, 1), (2, .putfield 15, 3), (5, .return_, 1)], [(15, false, 3, 1)], [])
abbrev mX3_empty : pm_M := (yX3_empty, cX3_empty, 1, none, RX3)
theorem kX3_empty : pm_Ib mX3_empty iX3_empty = true := by decide +kernel
def iX3_place : pm_I := ([(0, .aload_n 0, 1), (1, .getfield 19, 3), (4, .ireturn, 1)], [(19, false, 3, 2)], [])
abbrev mX3_place : pm_M := (yX3_place, cX3_place, 1, (some .int), RX3)
theorem kX3_place : pm_Ib mX3_place iX3_place = true := by decide +kernel
def iX3_readInto : pm_I := ([(0, .aload_n 0, 1), (1, .iconst 0, 1), (2, .putfield 19, 3), (5, .aload_n 1, 1), (6, .invokevirtual 22, 3), (9, .iconst 0, 1), (10, .istore_n 2, 1), (11, .iload_n 2, 1), (12, .bipush 7, 2), (14, .if_icmp .ge 40, 3), (17, .aload_n 0, 1), (18, .iload_n 2, 1), (19, .aload_n 1, 1), (20, .invokevirtual 27, 3), (23, .ifCond .ne 5, 3), (26, .iconst 0, 1), (27, .ireturn, 1), (28, .aload_n 1, 1), (29, .iload_n 2, 1), (30, .iconst 1, 1), (31, .iadd, 1), (32, .putfield 31, 3), (35, .aload_n 0, 1), (36, .getfield 19, 3), (39, .aload_n 0, 1), (40, .getfield 15, 3), (43, .if_icmp .ne 5, 3), (46, .iconst 1, 1), (47, .ireturn, 1), (48, .iinc 2 1, 3), (51, .goto (-40), 3), (54, .iconst 0, 1), (55, .ireturn, 1)], [(19, false, 3, 2), (31, true, 2, 2), (15, false, 3, 1)], [])
abbrev mX3_readInto : pm_M := (yX3_readInto, cX3_readInto, 3, (some .boolean), RX3)
theorem kX3_readInto : pm_Ib mX3_readInto iX3_readInto = true := by decide +kernel
def iX3_takeRow : pm_I := ([(0, .aload_n 0, 1), (1, .bipush 97, 2), (3, .iload_n 1, 1), (4, .iadd, 1), (5, .i2c, 1), (6, .invokevirtual 34, 3), (9, .ifCond .eq 12, 3), (12, .aload_n 0, 1), (13, .bipush 32, 2), (15, .invokevirtual 34, 3), (18, .ifCond .ne 5, 3), (21, .iconst 0, 1), (22, .ireturn, 1), (23, .iload_n 1, 1), (24, .ifCond .ne 8, 3), (27, .bipush 16, 2), (29, .goto 7, 3), (32, .aload_n 2, 1), (33, .getfield 38, 3), (36, .istore_n 3, 1), (37, .iconst 0, 1), (38, .istore 4, 2), (40, .iload 4, 2), (42, .iload_n 3, 1), (43, .if_icmp .ge 52, 3), (46, .iload_n 1, 1), (47, .ifCond .ne 20, 3), (50, .iload 4, 2), (52, .ifCond .le 15, 3), (55, .aload_n 0, 1), (56, .bipush 59, 2), (58, .invokevirtual 41, 3), (61, .ifCond .eq 6, 3), (64, .goto 31, 3), (67, .aload_n 0, 1), (68, .invokevirtual 44, 3), (71, .istore 5, 2), (73, .iload 5, 2), (75, .ifCond .ne 5, 3), (78, .iconst 0, 1), (79, .ireturn, 1), (80, .aload_n 2, 1), (81, .iload_n 1, 1), (82, .iload 4, 2), (84, .iload 5, 2), (86, .invokevirtual 48, 3), (89, .iinc 4 1, 3), (92, .goto (-52), 3), (95, .aload_n 2, 1), (96, .iload 4, 2), (98, .putfield 38, 3), (101, .aload_n 0, 1), (102, .bipush 59, 2), (104, .invokevirtual 34, 3), (107, .ireturn, 1)], [(38, true, 2, 3)], [])
abbrev mX3_takeRow : pm_M := (yX3_takeRow, cX3_takeRow, 6, (some .boolean), RX3)
theorem kX3_takeRow : pm_Ib mX3_takeRow iX3_takeRow = true := by decide +kernel
def iX3_takeEntry : pm_I := ([(0, .aload_n 0, 1), (1, .bipush 63, 2), (3, .invokevirtual 34, 3), (6, .ifCond .eq 6, 3), (9, .bipush 15, 2), (11, .ireturn, 1), (12, .aload_n 0, 1), (13, .bipush 123, 2), (15, .invokevirtual 34, 3), (18, .ifCond .eq 28, 3), (21, .aload_n 0, 1), (22, .iconst 4, 1), (23, .invokevirtual 52, 3), (26, .istore_n 1, 1), (27, .iload_n 1, 1), (28, .ifCond .eq 16, 3), (31, .aload_n 0, 1), (32, .bipush 125, 2), (34, .invokevirtual 34, 3), (37, .ifCond .eq 7, 3), (40, .iload_n 1, 1), (41, .goto 4, 3), (44, .iconst 0, 1), (45, .ireturn, 1), (46, .aload_n 0, 1), (47, .iconst 1, 1), (48, .invokevirtual 52, 3), (51, .ireturn, 1)], [], [])
abbrev mX3_takeEntry : pm_M := (yX3_takeEntry, cX3_takeEntry, 2, (some .int), RX3)
theorem kX3_takeEntry : pm_Ib mX3_takeEntry iX3_takeEntry = true := by decide +kernel
def iX3_takeRisingStates : pm_I := ([(0, .iconst 0, 1), (1, .istore_n 2, 1), (2, .iconst 0, 1), (3, .istore_n 3, 1), (4, .iconst 0, 1), (5, .istore 4, 2), (7, .iload 4, 2), (9, .iconst 4, 1), (10, .if_icmp .ge 37, 3), (13, .iload_n 3, 1), (14, .iload_n 1, 1), (15, .if_icmp .ge 32, 3), (18, .aload_n 0, 1), (19, .bipush 48, 2), (21, .iload 4, 2), (23, .iadd, 1), (24, .i2c, 1), (25, .invokevirtual 34, 3), (28, .ifCond .eq 13, 3), (31, .iload_n 2, 1), (32, .iconst 1, 1), (33, .iload 4, 2), (35, .ishl, 1), (36, .ior, 1), (37, .istore_n 2, 1), (38, .iinc 3 1, 3), (41, .iinc 4 1, 3), (44, .goto (-37), 3), (47, .iload_n 2, 1), (48, .ireturn, 1)], [], [])
abbrev mX3_takeRisingStates : pm_M := (yX3_takeRisingStates, cX3_takeRisingStates, 5, (some .int), RX3)
theorem kX3_takeRisingStates : pm_Ib mX3_takeRisingStates iX3_takeRisingStates = true := by decide +kernel
def iX3_take : pm_I := ([(0, .aload_n 0, 1), (1, .iload_n 1, 1), (2, .invokevirtual 41, 3), (5, .ifCond .ne 5, 3), (8, .iconst 0, 1), (9, .ireturn, 1), (10, .aload_n 0, 1), (11, .dup, 1), (12, .getfield 19, 3), (15, .iconst 1, 1), (16, .iadd, 1), (17, .putfield 19, 3), (20, .iconst 1, 1), (21, .ireturn, 1)], [(19, false, 3, 2)], [])
abbrev mX3_take : pm_M := (yX3_take, cX3_take, 2, (some .boolean), RX3)
theorem kX3_take : pm_Ib mX3_take iX3_take = true := by decide +kernel
def iX3_isHere : pm_I := ([(0, .aload_n 0, 1), (1, .getfield 19, 3), (4, .aload_n 0, 1), (5, .getfield 15, 3), (8, .if_icmp .ge 20, 3), (11, .aload_n 0, 1), (12, .getfield 9, 3), (15, .aload_n 0, 1), (16, .getfield 19, 3), (19, .caload, 1), (20, .iload_n 1, 1), (21, .if_icmp .ne 7, 3), (24, .iconst 1, 1), (25, .goto 4, 3), (28, .iconst 0, 1), (29, .ireturn, 1)], [(19, false, 3, 2), (15, false, 3, 1), (9, false, 3, 0)], [])
abbrev mX3_isHere : pm_M := (yX3_isHere, cX3_isHere, 2, (some .boolean), RX3)
theorem kX3_isHere : pm_Ib mX3_isHere iX3_isHere = true := by decide +kernel
theorem gRX3_22 : ∀ x ∈ wsV RX3 22 RX2 yX2_clear [Cond.code yX2_clear cX2_clear 1 none], x ∈ pm_tb := by decide +kernel
theorem vX2_clear : yX2_clear.cls = RX2 ∧ yX2_clear.cls ≠ "java/lang/invoke/MethodHandle" ∧ yX2_clear.cls ≠ "java/lang/invoke/VarHandle" ∧ (parseMethodDescriptor yX2_clear.desc).map (fun d => d.parameters.length) = some 0 := by decide +kernel
theorem gRX3_27 : ∀ x ∈ wsV RX3 27 RX3 yX3_takeRow [Cond.code yX3_takeRow cX3_takeRow 6 (some .boolean)], x ∈ pm_tb := by decide +kernel
theorem vX3_takeRow : yX3_takeRow.cls = RX3 ∧ yX3_takeRow.cls ≠ "java/lang/invoke/MethodHandle" ∧ yX3_takeRow.cls ≠ "java/lang/invoke/VarHandle" ∧ (parseMethodDescriptor yX3_takeRow.desc).map (fun d => d.parameters.length) = some 2 := by decide +kernel
theorem gRX3_34 : ∀ x ∈ wsV RX3 34 RX3 yX3_take [Cond.code yX3_take cX3_take 2 (some .boolean)], x ∈ pm_tb := by decide +kernel
theorem vX3_take : yX3_take.cls = RX3 ∧ yX3_take.cls ≠ "java/lang/invoke/MethodHandle" ∧ yX3_take.cls ≠ "java/lang/invoke/VarHandle" ∧ (parseMethodDescriptor yX3_take.desc).map (fun d => d.parameters.length) = some 1 := by decide +kernel
theorem gRX3_41 : ∀ x ∈ wsV RX3 41 RX3 yX3_isHere [Cond.code yX3_isHere cX3_isHere 2 (some .boolean)], x ∈ pm_tb := by decide +kernel
theorem vX3_isHere : yX3_isHere.cls = RX3 ∧ yX3_isHere.cls ≠ "java/lang/invoke/MethodHandle" ∧ yX3_isHere.cls ≠ "java/lang/invoke/VarHandle" ∧ (parseMethodDescriptor yX3_isHere.desc).map (fun d => d.parameters.length) = some 1 := by decide +kernel
theorem gRX3_44 : ∀ x ∈ wsV RX3 44 RX3 yX3_takeEntry [Cond.code yX3_takeEntry cX3_takeEntry 2 (some .int)], x ∈ pm_tb := by decide +kernel
theorem vX3_takeEntry : yX3_takeEntry.cls = RX3 ∧ yX3_takeEntry.cls ≠ "java/lang/invoke/MethodHandle" ∧ yX3_takeEntry.cls ≠ "java/lang/invoke/VarHandle" ∧ (parseMethodDescriptor yX3_takeEntry.desc).map (fun d => d.parameters.length) = some 0 := by decide +kernel
theorem gRX3_48 : ∀ x ∈ wsV RX3 48 RX2 yX2_put [Cond.code yX2_put cX2_put 4 none], x ∈ pm_tb := by decide +kernel
theorem vX2_put : yX2_put.cls = RX2 ∧ yX2_put.cls ≠ "java/lang/invoke/MethodHandle" ∧ yX2_put.cls ≠ "java/lang/invoke/VarHandle" ∧ (parseMethodDescriptor yX2_put.desc).map (fun d => d.parameters.length) = some 3 := by decide +kernel
theorem gRX3_52 : ∀ x ∈ wsV RX3 52 RX3 yX3_takeRisingStates [Cond.code yX3_takeRisingStates cX3_takeRisingStates 5 (some .int)], x ∈ pm_tb := by decide +kernel
theorem vX3_takeRisingStates : yX3_takeRisingStates.cls = RX3 ∧ yX3_takeRisingStates.cls ≠ "java/lang/invoke/MethodHandle" ∧ yX3_takeRisingStates.cls ≠ "java/lang/invoke/VarHandle" ∧ (parseMethodDescriptor yX3_takeRisingStates.desc).map (fun d => d.parameters.length) = some 1 := by decide +kernel
end
section
def iX4_init : pm_I := ([(0, .aload_n 0, 1), (1, .invokespecial 3, 3), (4, .aload_n 0, 1), (5, .bipush 7, 2), (7, .newarray .int, 2), (9, .putfield 9, 3), (12, .aload_n 0, 1), (13, .bipush 14, 2), (15, .newarray .int, 2), (17, .putfield 15, 3), (20, .aload_n 0, 1), (21, .bipush 14, 2), (23, .newarray .int, 2), (25, .putfield 18, 3), (28, .aload_n 0, 1), (29, .bipush 14, 2), (31, .newarray .int, 2), (33, .putfield 21, 3), (36, .aload_n 0, 1), (37, .bipush 14, 2), (39, .newarray .long, 2), (41, .putfield 24, 3), (44, .aload_n 0, 1), (45, .bipush 7, 2), (47, .newarray .int, 2), (49, .putfield 28, 3), (52, .return_, 1)], [(9, false, 4, 0), (15, false, 4, 1), (18, false, 4, 2), (21, false, 4, 3), (24, false, 4, 4), (28, false, 4, 5)], [])
abbrev mX4_init : pm_M := (yX4_init, cX4_init, 1, none, RX4)
theorem kX4_init : pm_Ib mX4_init iX4_init = true := by decide +kernel
def iX4_grow : pm_I := ([(0, .aload_n 0, 1), (1, .iload_n 1, 1), (2, .iload_n 2, 1), (3, .invokevirtual 31, 3), (6, .aload_n 0, 1), (7, .iconst 0, 1), (8, .putfield 35, 3), (11, .iconst 0, 1), (12, .istore_n 3, 1), (13, .iload_n 3, 1), (14, .iload_n 2, 1), (15, .if_icmp .ge 18, 3), (18, .aload_n 0, 1), (19, .getfield 21, 3), (22, .iload_n 3, 1), (23, .iconst 1, 1), (24, .iload_n 3, 1), (25, .ishl, 1), (26, .iastore, 1), (27, .iinc 3 1, 3), (30, .goto (-17), 3), (33, .iconst 2, 1), (34, .istore_n 3, 1), (35, .iload_n 3, 1), (36, .iload_n 2, 1), (37, .if_icmp .ge 19, 3), (40, .aload_n 0, 1), (41, .iload_n 3, 1), (42, .aload_n 0, 1), (43, .iload_n 3, 1), (44, .invokevirtual 39, 3), (47, .invokevirtual 43, 3), (50, .iinc 3 1, 3), (53, .goto (-18), 3), (56, .return_, 1)], [(35, false, 4, 6), (21, false, 4, 3)], [])
abbrev mX4_grow : pm_M := (yX4_grow, cX4_grow, 4, none, RX4)
theorem kX4_grow : pm_Ib mX4_grow iX4_grow = true := by decide +kernel
def iX4_growAndMeasure : pm_I := ([(0, .aload_n 0, 1), (1, .iload_n 1, 1), (2, .aload_n 2, 1), (3, .getfield 46, 3), (6, .invokevirtual 51, 3), (9, .aload_n 2, 1), (10, .aload_n 0, 1), (11, .aload_n 2, 1), (12, .invokevirtual 54, 3), (15, .invokevirtual 58, 3), (18, .ireturn, 1)], [(46, true, 2, 2)], [])
abbrev mX4_growAndMeasure : pm_M := (yX4_growAndMeasure, cX4_growAndMeasure, 3, (some .int), RX4)
theorem kX4_growAndMeasure : pm_Ib mX4_growAndMeasure iX4_growAndMeasure = true := by decide +kernel
def iX4_choose : pm_I := ([(0, .iload_n 1, 1), (1, .istore_n 3, 1), (2, .iload_n 2, 1), (3, .iconst 1, 1), (4, .isub, 1), (5, .istore 4, 2), (7, .iload 4, 2), (9, .iconst 3, 1), (10, .if_icmp .lt 33, 3), (13, .iconst 2, 1), (14, .iload 4, 2), (16, .imul, 1), (17, .iconst 3, 1), (18, .isub, 1), (19, .istore 5, 2), (21, .aload_n 0, 1), (22, .getfield 9, 3), (25, .iload 4, 2), (27, .iload_n 3, 1), (28, .iload 5, 2), (30, .irem, 1), (31, .iastore, 1), (32, .iload_n 3, 1), (33, .iload 5, 2), (35, .idiv, 1), (36, .istore_n 3, 1), (37, .iinc 4 (-1), 3), (40, .goto (-33), 3), (43, .return_, 1)], [(9, false, 4, 0)], [])
abbrev mX4_choose : pm_M := (yX4_choose, cX4_choose, 6, none, RX4)
theorem kX4_choose : pm_Ib mX4_choose iX4_choose = true := by decide +kernel
def iX4_chosenNode : pm_I := ([(0, .aload_n 0, 1), (1, .getfield 9, 3), (4, .iload_n 1, 1), (5, .iaload, 1), (6, .istore_n 2, 1), (7, .iload_n 2, 1), (8, .iload_n 1, 1), (9, .iconst 1, 1), (10, .isub, 1), (11, .if_icmp .ge 9, 3), (14, .iload_n 2, 1), (15, .iconst 1, 1), (16, .iadd, 1), (17, .goto 11, 3), (20, .bipush 7, 2), (22, .iload_n 2, 1), (23, .iadd, 1), (24, .iload_n 1, 1), (25, .isub, 1), (26, .iconst 3, 1), (27, .iadd, 1), (28, .ireturn, 1)], [(9, false, 4, 0)], [])
abbrev mX4_chosenNode : pm_M := (yX4_chosenNode, cX4_chosenNode, 3, (some .int), RX4)
theorem kX4_chosenNode : pm_Ib mX4_chosenNode iX4_chosenNode = true := by decide +kernel
def iX4_insert : pm_I := ([(0, .bipush 7, 2), (2, .iload_n 1, 1), (3, .iadd, 1), (4, .istore_n 3, 1), (5, .iconst 0, 1), (6, .istore 4, 2), (8, .iconst 0, 1), (9, .istore 5, 2), (11, .iload 5, 2), (13, .aload_n 0, 1), (14, .getfield 35, 3), (17, .if_icmp .ge 42, 3), (20, .aload_n 0, 1), (21, .getfield 28, 3), (24, .iload 5, 2), (26, .iaload, 1), (27, .iload_n 2, 1), (28, .if_icmp .ne 12, 3), (31, .iload 5, 2), (33, .iconst 1, 1), (34, .iadd, 1), (35, .istore 4, 2), (37, .goto 16, 3), (40, .aload_n 0, 1), (41, .aload_n 0, 1), (42, .getfield 28, 3), (45, .iload 5, 2), (47, .iaload, 1), (48, .iload_n 2, 1), (49, .iload_n 3, 1), (50, .invokevirtual 62, 3), (53, .iinc 5 1, 3), (56, .goto (-45), 3), (59, .aload_n 0, 1), (60, .getfield 15, 3), (63, .iload_n 3, 1), (64, .iload_n 2, 1), (65, .iastore, 1), (66, .aload_n 0, 1), (67, .getfield 18, 3), (70, .iload_n 3, 1), (71, .iload_n 1, 1), (72, .iastore, 1), (73, .aload_n 0, 1), (74, .getfield 21, 3), (77, .iload_n 3, 1), (78, .aload_n 0, 1), (79, .getfield 21, 3), (82, .iload_n 2, 1), (83, .iaload, 1), (84, .aload_n 0, 1), (85, .getfield 21, 3), (88, .iload_n 1, 1), (89, .iaload, 1), (90, .ior, 1), (91, .iastore, 1), (92, .aload_n 0, 1), (93, .getfield 28, 3), (96, .iload 4, 2), (98, .aload_n 0, 1), (99, .getfield 28, 3), (102, .iload 4, 2), (104, .iconst 1, 1), (105, .iadd, 1), (106, .aload_n 0, 1), (107, .getfield 35, 3), (110, .iload 4, 2), (112, .isub, 1), (113, .invokestatic 66, 3), (116, .aload_n 0, 1), (117, .getfield 28, 3), (120, .iload 4, 2), (122, .iload_n 3, 1), (123, .iastore, 1), (124, .aload_n 0, 1), (125, .dup, 1), (126, .getfield 35, 3), (129, .iconst 1, 1), (130, .iadd, 1), (131, .putfield 35, 3), (134, .return_, 1)], [(35, false, 4, 6), (28, false, 4, 5), (15, false, 4, 1), (18, false, 4, 2), (21, false, 4, 3)], [])
abbrev mX4_insert : pm_M := (yX4_insert, cX4_insert, 6, none, RX4)
theorem kX4_insert : pm_Ib mX4_insert iX4_insert = true := by decide +kernel
def iX4_makeRoom : pm_I := ([(0, .aload_n 0, 1), (1, .getfield 15, 3), (4, .iload_n 1, 1), (5, .iaload, 1), (6, .iload_n 2, 1), (7, .if_icmp .ne 13, 3), (10, .aload_n 0, 1), (11, .getfield 15, 3), (14, .iload_n 1, 1), (15, .iload_n 3, 1), (16, .iastore, 1), (17, .goto 20, 3), (20, .aload_n 0, 1), (21, .getfield 18, 3), (24, .iload_n 1, 1), (25, .iaload, 1), (26, .iload_n 2, 1), (27, .if_icmp .ne 10, 3), (30, .aload_n 0, 1), (31, .getfield 18, 3), (34, .iload_n 1, 1), (35, .iload_n 3, 1), (36, .iastore, 1), (37, .aload_n 0, 1), (38, .getfield 21, 3), (41, .iload_n 1, 1), (42, .iaload, 1), (43, .aload_n 0, 1), (44, .getfield 21, 3), (47, .iload_n 2, 1), (48, .iaload, 1), (49, .iand, 1), (50, .aload_n 0, 1), (51, .getfield 21, 3), (54, .iload_n 2, 1), (55, .iaload, 1), (56, .if_icmp .ne 21, 3), (59, .aload_n 0, 1), (60, .getfield 21, 3), (63, .iload_n 1, 1), (64, .dup2, 1), (65, .iaload, 1), (66, .aload_n 0, 1), (67, .getfield 21, 3), (70, .iload_n 3, 1), (71, .bipush 7, 2), (73, .isub, 1), (74, .iaload, 1), (75, .ior, 1), (76, .iastore, 1), (77, .return_, 1)], [(15, false, 4, 1), (18, false, 4, 2), (21, false, 4, 3)], [])
abbrev mX4_makeRoom : pm_M := (yX4_makeRoom, cX4_makeRoom, 4, none, RX4)
theorem kX4_makeRoom : pm_Ib mX4_makeRoom iX4_makeRoom = true := by decide +kernel
def iX4_packedChanges : pm_I := ([(0, .iconst 0, 1), (1, .istore_n 2, 1), (2, .iload_n 2, 1), (3, .aload_n 1, 1), (4, .getfield 46, 3), (7, .if_icmp .ge 21, 3), (10, .aload_n 0, 1), (11, .getfield 24, 3), (14, .iload_n 2, 1), (15, .aload_n 1, 1), (16, .getfield 72, 3), (19, .iload_n 2, 1), (20, .laload, 1), (21, .lastore, 1), (22, .iinc 2 1, 3), (25, .goto (-23), 3), (28, .lconst 0, 1), (29, .lstore_n 2, 1), (30, .iconst 0, 1), (31, .istore 4, 2), (33, .iconst 0, 1), (34, .istore 5, 2), (36, .iload 5, 2), (38, .aload_n 0, 1), (39, .getfield 35, 3), (42, .if_icmp .ge 70, 3), (45, .aload_n 0, 1), (46, .getfield 28, 3), (49, .iload 5, 2), (51, .iaload, 1), (52, .istore 4, 2), (54, .aload_n 0, 1), (55, .aload_n 0, 1), (56, .getfield 15, 3), (59, .iload 4, 2), (61, .iaload, 1), (62, .aload_n 0, 1), (63, .getfield 18, 3), (66, .iload 4, 2), (68, .iaload, 1), (69, .invokevirtual 75, 3), (72, .lstore 6, 2), (74, .aload_n 0, 1), (75, .getfield 24, 3), (78, .iload 4, 2), (80, .aload_n 0, 1), (81, .aload_n 0, 1), (82, .getfield 15, 3), (85, .iload 4, 2), (87, .iaload, 1), (88, .aload_n 0, 1), (89, .getfield 18, 3), (92, .iload 4, 2), (94, .iaload, 1), (95, .lload 6, 2), (97, .invokevirtual 79, 3), (100, .lastore, 1), (101, .lload_n 2, 1), (102, .lload 6, 2), (104, .ladd, 1), (105, .lstore_n 2, 1), (106, .iinc 5 1, 3), (109, .goto (-73), 3), (112, .lload_n 2, 1), (113, .aload_n 0, 1), (114, .iconst 0, 1), (115, .iload 4, 2), (117, .invokevirtual 75, 3), (120, .ladd, 1), (121, .lreturn, 1)], [(46, true, 2, 2), (24, false, 4, 4), (72, true, 2, 0), (35, false, 4, 6), (28, false, 4, 5), (15, false, 4, 1), (18, false, 4, 2)], [])
abbrev mX4_packedChanges : pm_M := (yX4_packedChanges, cX4_packedChanges, 8, (some .long), RX4)
theorem kX4_packedChanges : pm_Ib mX4_packedChanges iX4_packedChanges = true := by decide +kernel
def iX4_tornAt : pm_I := ([(0, .aload_n 0, 1), (1, .getfield 24, 3), (4, .iload_n 1, 1), (5, .laload, 1), (6, .aload_n 0, 1), (7, .getfield 24, 3), (10, .iload_n 2, 1), (11, .laload, 1), (12, .land, 1), (13, .lstore_n 3, 1), (14, .lload_n 3, 1), (15, .lload_n 3, 1), (16, .iconst 1, 1), (17, .lushr, 1), (18, .lor, 1), (19, .lload_n 3, 1), (20, .iconst 2, 1), (21, .lushr, 1), (22, .lor, 1), (23, .lload_n 3, 1), (24, .iconst 3, 1), (25, .lushr, 1), (26, .lor, 1), (27, .ldc2_w 83, 3), (30, .lxor, 1), (31, .ldc2_w 85, 3), (34, .land, 1), (35, .lreturn, 1)], [(24, false, 4, 4)], [(83, .long (-1)), (85, .long 1229782938247303441)])
abbrev mX4_tornAt : pm_M := (yX4_tornAt, cX4_tornAt, 5, (some .long), RX4)
theorem kX4_tornAt : pm_Ib mX4_tornAt iX4_tornAt = true := by decide +kernel
def iX4_joined : pm_I := ([(0, .aload_n 0, 1), (1, .getfield 24, 3), (4, .iload_n 1, 1), (5, .laload, 1), (6, .aload_n 0, 1), (7, .getfield 24, 3), (10, .iload_n 2, 1), (11, .laload, 1), (12, .land, 1), (13, .aload_n 0, 1), (14, .getfield 24, 3), (17, .iload_n 1, 1), (18, .laload, 1), (19, .aload_n 0, 1), (20, .getfield 24, 3), (23, .iload_n 2, 1), (24, .laload, 1), (25, .lor, 1), (26, .lload_n 3, 1), (27, .ldc2_w 87, 3), (30, .lmul, 1), (31, .land, 1), (32, .lor, 1), (33, .lreturn, 1)], [(24, false, 4, 4)], [(87, .long 15)])
abbrev mX4_joined : pm_M := (yX4_joined, cX4_joined, 5, (some .long), RX4)
theorem kX4_joined : pm_Ib mX4_joined iX4_joined = true := by decide +kernel
def iX4_splitCount : pm_I := ([(0, .aload_n 0, 1), (1, .getfield 35, 3), (4, .iconst 1, 1), (5, .isub, 1), (6, .ireturn, 1)], [(35, false, 4, 6)], [])
abbrev mX4_splitCount : pm_M := (yX4_splitCount, cX4_splitCount, 1, (some .int), RX4)
theorem kX4_splitCount : pm_Ib mX4_splitCount iX4_splitCount = true := by decide +kernel
def iX4_splitAt : pm_I := ([(0, .aload_n 0, 1), (1, .getfield 21, 3), (4, .aload_n 0, 1), (5, .getfield 28, 3), (8, .iload_n 1, 1), (9, .iaload, 1), (10, .iaload, 1), (11, .ireturn, 1)], [(21, false, 4, 3), (28, false, 4, 5)], [])
abbrev mX4_splitAt : pm_M := (yX4_splitAt, cX4_splitAt, 2, (some .int), RX4)
theorem kX4_splitAt : pm_Ib mX4_splitAt iX4_splitAt = true := by decide +kernel
def iX4_hasSplit : pm_I := ([(0, .iconst 0, 1), (1, .istore_n 2, 1), (2, .iload_n 2, 1), (3, .aload_n 0, 1), (4, .invokevirtual 89, 3), (7, .if_icmp .ge 20, 3), (10, .aload_n 0, 1), (11, .iload_n 2, 1), (12, .invokevirtual 93, 3), (15, .iload_n 1, 1), (16, .if_icmp .ne 5, 3), (19, .iconst 1, 1), (20, .ireturn, 1), (21, .iinc 2 1, 3), (24, .goto (-22), 3), (27, .iconst 0, 1), (28, .ireturn, 1)], [], [])
abbrev mX4_hasSplit : pm_M := (yX4_hasSplit, cX4_hasSplit, 3, (some .boolean), RX4)
theorem kX4_hasSplit : pm_Ib mX4_hasSplit iX4_hasSplit = true := by decide +kernel
def iX4_splitsNotIn : pm_I := ([(0, .iconst 0, 1), (1, .istore_n 2, 1), (2, .iconst 0, 1), (3, .istore_n 3, 1), (4, .iload_n 3, 1), (5, .aload_n 0, 1), (6, .invokevirtual 89, 3), (9, .if_icmp .ge 24, 3), (12, .aload_n 1, 1), (13, .aload_n 0, 1), (14, .iload_n 3, 1), (15, .invokevirtual 93, 3), (18, .invokevirtual 96, 3), (21, .ifCond .ne 6, 3), (24, .iinc 2 1, 3), (27, .iinc 3 1, 3), (30, .goto (-26), 3), (33, .iload_n 2, 1), (34, .ireturn, 1)], [], [])
abbrev mX4_splitsNotIn : pm_M := (yX4_splitsNotIn, cX4_splitsNotIn, 4, (some .int), RX4)
theorem kX4_splitsNotIn : pm_Ib mX4_splitsNotIn iX4_splitsNotIn = true := by decide +kernel
theorem gRX4_31 : ∀ x ∈ wsV RX4 31 RX4 yX4_choose [Cond.code yX4_choose cX4_choose 6 none], x ∈ pm_tb := by decide +kernel
theorem vX4_choose : yX4_choose.cls = RX4 ∧ yX4_choose.cls ≠ "java/lang/invoke/MethodHandle" ∧ yX4_choose.cls ≠ "java/lang/invoke/VarHandle" ∧ (parseMethodDescriptor yX4_choose.desc).map (fun d => d.parameters.length) = some 2 := by decide +kernel
theorem gRX4_39 : ∀ x ∈ wsV RX4 39 RX4 yX4_chosenNode [Cond.code yX4_chosenNode cX4_chosenNode 3 (some .int)], x ∈ pm_tb := by decide +kernel
theorem vX4_chosenNode : yX4_chosenNode.cls = RX4 ∧ yX4_chosenNode.cls ≠ "java/lang/invoke/MethodHandle" ∧ yX4_chosenNode.cls ≠ "java/lang/invoke/VarHandle" ∧ (parseMethodDescriptor yX4_chosenNode.desc).map (fun d => d.parameters.length) = some 1 := by decide +kernel
theorem gRX4_43 : ∀ x ∈ wsV RX4 43 RX4 yX4_insert [Cond.code yX4_insert cX4_insert 6 none], x ∈ pm_tb := by decide +kernel
theorem vX4_insert : yX4_insert.cls = RX4 ∧ yX4_insert.cls ≠ "java/lang/invoke/MethodHandle" ∧ yX4_insert.cls ≠ "java/lang/invoke/VarHandle" ∧ (parseMethodDescriptor yX4_insert.desc).map (fun d => d.parameters.length) = some 2 := by decide +kernel
theorem gRX4_51 : ∀ x ∈ wsV RX4 51 RX4 yX4_grow [Cond.code yX4_grow cX4_grow 4 none], x ∈ pm_tb := by decide +kernel
theorem gRX4_54 : ∀ x ∈ wsV RX4 54 RX4 yX4_packedChanges [Cond.code yX4_packedChanges cX4_packedChanges 8 (some .long)], x ∈ pm_tb := by decide +kernel
theorem vX4_packedChanges : yX4_packedChanges.cls = RX4 ∧ yX4_packedChanges.cls ≠ "java/lang/invoke/MethodHandle" ∧ yX4_packedChanges.cls ≠ "java/lang/invoke/VarHandle" ∧ (parseMethodDescriptor yX4_packedChanges.desc).map (fun d => d.parameters.length) = some 1 := by decide +kernel
theorem gRX4_58 : ∀ x ∈ wsV RX4 58 RX2 yX2_weighed [Cond.code yX2_weighed cX2_weighed 5 (some .int)], x ∈ pm_tb := by decide +kernel
theorem vX2_weighed : yX2_weighed.cls = RX2 ∧ yX2_weighed.cls ≠ "java/lang/invoke/MethodHandle" ∧ yX2_weighed.cls ≠ "java/lang/invoke/VarHandle" ∧ (parseMethodDescriptor yX2_weighed.desc).map (fun d => d.parameters.length) = some 1 := by decide +kernel
theorem gRX4_62 : ∀ x ∈ wsV RX4 62 RX4 yX4_makeRoom [Cond.code yX4_makeRoom cX4_makeRoom 4 none], x ∈ pm_tb := by decide +kernel
theorem vX4_makeRoom : yX4_makeRoom.cls = RX4 ∧ yX4_makeRoom.cls ≠ "java/lang/invoke/MethodHandle" ∧ yX4_makeRoom.cls ≠ "java/lang/invoke/VarHandle" ∧ (parseMethodDescriptor yX4_makeRoom.desc).map (fun d => d.parameters.length) = some 3 := by decide +kernel
theorem gRX4_75 : ∀ x ∈ wsV RX4 75 RX4 yX4_tornAt [Cond.code yX4_tornAt cX4_tornAt 5 (some .long)], x ∈ pm_tb := by decide +kernel
theorem vX4_tornAt : yX4_tornAt.cls = RX4 ∧ yX4_tornAt.cls ≠ "java/lang/invoke/MethodHandle" ∧ yX4_tornAt.cls ≠ "java/lang/invoke/VarHandle" ∧ (parseMethodDescriptor yX4_tornAt.desc).map (fun d => d.parameters.length) = some 2 := by decide +kernel
theorem gRX4_79 : ∀ x ∈ wsV RX4 79 RX4 yX4_joined [Cond.code yX4_joined cX4_joined 5 (some .long)], x ∈ pm_tb := by decide +kernel
theorem vX4_joined : yX4_joined.cls = RX4 ∧ yX4_joined.cls ≠ "java/lang/invoke/MethodHandle" ∧ yX4_joined.cls ≠ "java/lang/invoke/VarHandle" ∧ (parseMethodDescriptor yX4_joined.desc).map (fun d => d.parameters.length) = some 3 := by decide +kernel
theorem gRX4_89 : ∀ x ∈ wsV RX4 89 RX4 yX4_splitCount [Cond.code yX4_splitCount cX4_splitCount 1 (some .int)], x ∈ pm_tb := by decide +kernel
theorem gRX4_93 : ∀ x ∈ wsV RX4 93 RX4 yX4_splitAt [Cond.code yX4_splitAt cX4_splitAt 2 (some .int)], x ∈ pm_tb := by decide +kernel
theorem gRX4_96 : ∀ x ∈ wsV RX4 96 RX4 yX4_hasSplit [Cond.code yX4_hasSplit cX4_hasSplit 3 (some .boolean)], x ∈ pm_tb := by decide +kernel
theorem vX4_hasSplit : yX4_hasSplit.cls = RX4 ∧ yX4_hasSplit.cls ≠ "java/lang/invoke/MethodHandle" ∧ yX4_hasSplit.cls ≠ "java/lang/invoke/VarHandle" ∧ (parseMethodDescriptor yX4_hasSplit.desc).map (fun d => d.parameters.length) = some 1 := by decide +kernel
end
section
def iX5_init : pm_I := ([(0, .aload_n 0, 1), (1, .invokespecial 1, 3), (4, .aload_n 0, 1), (5, .new 7, 3), (8, .dup, 1), (9, .invokespecial 9, 3), (12, .putfield 10, 3), (15, .aload_n 0, 1), (16, .new 16, 3), (19, .dup, 1), (20, .invokespecial 18, 3), (23, .putfield 19, 3), (26, .aload_n 0, 1), (27, .new 16, 3), (30, .dup, 1), (31, .invokespecial 18, 3), (34, .putfield 23, 3), (37, .aload_n 0, 1), (38, .new 26, 3), (41, .dup, 1), (42, .invokespecial 28, 3), (45, .putfield 29, 3), (48, .aload_n 0, 1), (49, .new 33, 3), (52, .dup, 1), (53, .invokespecial 35, 3), (56, .putfield 36, 3), (59, .aload_n 0, 1), (60, .new 40, 3), (63, .dup, 1), (64, .invokespecial 42, 3), (67, .putfield 43, 3), (70, .aload_n 0, 1), (71, .new 40, 3), (74, .dup, 1), (75, .invokespecial 42, 3), (78, .putfield 47, 3), (81, .return_, 1)], [(10, false, 5, 0), (19, false, 5, 1), (23, false, 5, 2), (29, false, 5, 3), (36, false, 5, 4), (43, false, 5, 5), (47, false, 5, 6)], [])
abbrev mX5_init : pm_M := (yX5_init, cX5_init, 1, none, RX5)
theorem kX5_init : pm_Ib mX5_init iX5_init = true := by decide +kernel
def iX5_type : pm_I := ([(0, .aload_n 0, 1), (1, .getfield 10, 3), (4, .invokevirtual 50, 3), (7, .ifCond .eq 13, 3), (10, .new 54, 3), (13, .dup, 1), (14, .ldc 56, 2), (16, .invokespecial 58, 3), (19, .athrow, 1), (20, .aload_n 0, 1), (21, .getfield 10, 3), (24, .iload_n 1, 1), (25, .invokevirtual 61, 3), (28, .ireturn, 1)], [(10, false, 5, 0)], [])
abbrev mX5_type : pm_M := (yX5_type, cX5_type, 2, (some .int), RX5)
theorem kX5_type : pm_Ib mX5_type iX5_type = true := by decide +kernel
def iX5_table : pm_I := ([(0, .aload_n 0, 1), (1, .getfield 10, 3), (4, .aload_n 0, 1), (5, .getfield 47, 3), (8, .invokevirtual 65, 3), (11, .istore_n 1, 1), (12, .aload_n 0, 1), (13, .getfield 10, 3), (16, .invokevirtual 69, 3), (19, .istore_n 2, 1), (20, .aload_n 0, 1), (21, .getfield 10, 3), (24, .invokevirtual 73, 3), (27, .iload_n 1, 1), (28, .ifCond .ne 8, 3), (31, .bipush (-100), 2), (33, .iload_n 2, 1), (34, .isub, 1), (35, .ireturn, 1), (36, .aload_n 0, 1), (37, .getfield 43, 3), (40, .astore_n 3, 1), (41, .aload_n 0, 1), (42, .aload_n 0, 1), (43, .getfield 47, 3), (46, .putfield 43, 3), (49, .aload_n 0, 1), (50, .aload_n 3, 1), (51, .putfield 47, 3), (54, .aload_n 0, 1), (55, .getfield 29, 3), (58, .invokevirtual 76, 3), (61, .aload_n 0, 1), (62, .getfield 43, 3), (65, .getfield 79, 3), (68, .ireturn, 1)], [(10, false, 5, 0), (47, false, 5, 6), (43, false, 5, 5), (29, false, 5, 3), (79, true, 2, 2)], [])
abbrev mX5_table : pm_M := (yX5_table, cX5_table, 4, (some .int), RX5)
theorem kX5_table : pm_Ib mX5_table iX5_table = true := by decide +kernel
def iX5_states : pm_I := ([(0, .iload_n 1, 1), (1, .ifCond .lt 25, 3), (4, .iload_n 1, 1), (5, .aload_n 0, 1), (6, .getfield 43, 3), (9, .getfield 79, 3), (12, .if_icmp .ge 14, 3), (15, .aload_n 0, 1), (16, .getfield 43, 3), (19, .iload_n 2, 1), (20, .invokevirtual 83, 3), (23, .ifCond .ne 13, 3), (26, .new 87, 3), (29, .dup, 1), (30, .ldc 89, 2), (32, .invokespecial 91, 3), (35, .athrow, 1), (36, .aload_n 0, 1), (37, .getfield 43, 3), (40, .iload_n 1, 1), (41, .iload_n 2, 1), (42, .invokevirtual 92, 3), (45, .ireturn, 1)], [(43, false, 5, 5), (79, true, 2, 2)], [])
abbrev mX5_states : pm_M := (yX5_states, cX5_states, 3, (some .int), RX5)
theorem kX5_states : pm_Ib mX5_states iX5_states = true := by decide +kernel
def iX5_weigh : pm_I := ([(0, .aload_n 0, 1), (1, .iload_n 1, 1), (2, .invokevirtual 96, 3), (5, .iload_n 2, 1), (6, .iconst 1, 1), (7, .if_icmp .lt 9, 3), (10, .iload_n 2, 1), (11, .bipush 9, 2), (13, .if_icmp .le 13, 3), (16, .new 100, 3), (19, .dup, 1), (20, .ldc 102, 2), (22, .invokespecial 104, 3), (25, .athrow, 1), (26, .aload_n 0, 1), (27, .getfield 43, 3), (30, .getfield 105, 3), (33, .iload_n 1, 1), (34, .iaload, 1), (35, .istore_n 3, 1), (36, .aload_n 0, 1), (37, .getfield 43, 3), (40, .getfield 105, 3), (43, .iload_n 1, 1), (44, .iload_n 2, 1), (45, .iastore, 1), (46, .aload_n 0, 1), (47, .getfield 29, 3), (50, .invokevirtual 76, 3), (53, .iload_n 3, 1), (54, .ireturn, 1)], [(43, false, 5, 5), (105, true, 2, 1), (29, false, 5, 3)], [])
abbrev mX5_weigh : pm_M := (yX5_weigh, cX5_weigh, 4, (some .int), RX5)
theorem kX5_weigh : pm_Ib mX5_weigh iX5_weigh = true := by decide +kernel
def iX5_trees : pm_I := ([(0, .aload_n 0, 1), (1, .getfield 43, 3), (4, .invokevirtual 109, 3), (7, .ireturn, 1)], [(43, false, 5, 5)], [])
abbrev mX5_trees : pm_M := (yX5_trees, cX5_trees, 1, (some .int), RX5)
theorem kX5_trees : pm_Ib mX5_trees iX5_trees = true := by decide +kernel
def iX5_changes : pm_I := ([(0, .aload_n 0, 1), (1, .iload_n 1, 1), (2, .invokevirtual 112, 3), (5, .aload_n 0, 1), (6, .iload_n 2, 1), (7, .invokevirtual 96, 3), (10, .aload_n 0, 1), (11, .getfield 19, 3), (14, .iload_n 1, 1), (15, .aload_n 0, 1), (16, .getfield 43, 3), (19, .getfield 79, 3), (22, .invokevirtual 115, 3), (25, .aload_n 0, 1), (26, .getfield 43, 3), (29, .aload_n 0, 1), (30, .getfield 19, 3), (33, .aload_n 0, 1), (34, .getfield 43, 3), (37, .invokevirtual 119, 3), (40, .iload_n 2, 1), (41, .invokevirtual 123, 3), (44, .ireturn, 1)], [(19, false, 5, 1), (43, false, 5, 5), (79, true, 2, 2)], [])
abbrev mX5_changes : pm_M := (yX5_changes, cX5_changes, 3, (some .int), RX5)
theorem kX5_changes : pm_Ib mX5_changes iX5_changes = true := by decide +kernel
def iX5_length : pm_I := ([(0, .aload_n 0, 1), (1, .iload_n 1, 1), (2, .invokevirtual 112, 3), (5, .aload_n 0, 1), (6, .getfield 19, 3), (9, .iload_n 1, 1), (10, .aload_n 0, 1), (11, .getfield 43, 3), (14, .invokevirtual 127, 3), (17, .ireturn, 1)], [(19, false, 5, 1), (43, false, 5, 5)], [])
abbrev mX5_length : pm_M := (yX5_length, cX5_length, 2, (some .int), RX5)
theorem kX5_length : pm_Ib mX5_length iX5_length = true := by decide +kernel
def iX5_search : pm_I := ([(0, .aload_n 0, 1), (1, .getfield 43, 3), (4, .invokevirtual 109, 3), (7, .ifCond .ne 13, 3), (10, .new 54, 3), (13, .dup, 1), (14, .ldc 131, 2), (16, .invokespecial 58, 3), (19, .athrow, 1), (20, .aload_n 0, 1), (21, .getfield 29, 3), (24, .aload_n 0, 1), (25, .getfield 43, 3), (28, .aload_n 0, 1), (29, .getfield 19, 3), (32, .invokevirtual 133, 3), (35, .ireturn, 1)], [(43, false, 5, 5), (29, false, 5, 3), (19, false, 5, 1)], [])
abbrev mX5_search : pm_M := (yX5_search, cX5_search, 1, (some .int), RX5)
theorem kX5_search : pm_Ib mX5_search iX5_search = true := by decide +kernel
def iX5_found : pm_I := ([(0, .aload_n 0, 1), (1, .getfield 29, 3), (4, .getfield 137, 3), (7, .ireturn, 1)], [(29, false, 5, 3), (137, true, 0, 2)], [])
abbrev mX5_found : pm_M := (yX5_found, cX5_found, 1, (some .int), RX5)
theorem kX5_found : pm_Ib mX5_found iX5_found = true := by decide +kernel
def iX5_best : pm_I := ([(0, .iload_n 1, 1), (1, .ifCond .lt 14, 3), (4, .iload_n 1, 1), (5, .aload_n 0, 1), (6, .getfield 29, 3), (9, .getfield 137, 3), (12, .if_icmp .lt 13, 3), (15, .new 87, 3), (18, .dup, 1), (19, .ldc 140, 2), (21, .invokespecial 91, 3), (24, .athrow, 1), (25, .aload_n 0, 1), (26, .getfield 29, 3), (29, .getfield 142, 3), (32, .iload_n 1, 1), (33, .iaload, 1), (34, .ireturn, 1)], [(29, false, 5, 3), (137, true, 0, 2), (142, true, 0, 0)], [])
abbrev mX5_best : pm_M := (yX5_best, cX5_best, 2, (some .int), RX5)
theorem kX5_best : pm_Ib mX5_best iX5_best = true := by decide +kernel
def iX5_split : pm_I := ([(0, .aload_n 0, 1), (1, .iload_n 1, 1), (2, .invokevirtual 112, 3), (5, .aload_n 0, 1), (6, .getfield 19, 3), (9, .iload_n 1, 1), (10, .aload_n 0, 1), (11, .getfield 43, 3), (14, .getfield 79, 3), (17, .invokevirtual 115, 3), (20, .aload_n 0, 1), (21, .getfield 19, 3), (24, .iload_n 2, 1), (25, .invokevirtual 145, 3), (28, .ireturn, 1)], [(19, false, 5, 1), (43, false, 5, 5), (79, true, 2, 2)], [])
abbrev mX5_split : pm_M := (yX5_split, cX5_split, 3, (some .boolean), RX5)
theorem kX5_split : pm_Ib mX5_split iX5_split = true := by decide +kernel
def iX5_share : pm_I := ([(0, .aload_n 0, 1), (1, .invokevirtual 148, 3), (4, .aload_n 0, 1), (5, .getfield 29, 3), (8, .iload_n 1, 1), (9, .invokevirtual 151, 3), (12, .freturn, 1)], [(29, false, 5, 3)], [])
abbrev mX5_share : pm_M := (yX5_share, cX5_share, 2, (some .float), RX5)
theorem kX5_share : pm_Ib mX5_share iX5_share = true := by decide +kernel
def iX5_distance : pm_I := ([(0, .aload_n 0, 1), (1, .iload_n 1, 1), (2, .invokevirtual 112, 3), (5, .aload_n 0, 1), (6, .iload_n 2, 1), (7, .invokevirtual 112, 3), (10, .aload_n 0, 1), (11, .getfield 19, 3), (14, .iload_n 1, 1), (15, .aload_n 0, 1), (16, .getfield 43, 3), (19, .getfield 79, 3), (22, .invokevirtual 115, 3), (25, .aload_n 0, 1), (26, .getfield 23, 3), (29, .iload_n 2, 1), (30, .aload_n 0, 1), (31, .getfield 43, 3), (34, .getfield 79, 3), (37, .invokevirtual 115, 3), (40, .aload_n 0, 1), (41, .getfield 19, 3), (44, .aload_n 0, 1), (45, .getfield 23, 3), (48, .invokevirtual 155, 3), (51, .aload_n 0, 1), (52, .getfield 23, 3), (55, .aload_n 0, 1), (56, .getfield 19, 3), (59, .invokevirtual 155, 3), (62, .iadd, 1), (63, .ireturn, 1)], [(19, false, 5, 1), (43, false, 5, 5), (79, true, 2, 2), (23, false, 5, 2)], [])
abbrev mX5_distance : pm_M := (yX5_distance, cX5_distance, 3, (some .int), RX5)
theorem kX5_distance : pm_Ib mX5_distance iX5_distance = true := by decide +kernel
def iX5_consistency : pm_I := ([(0, .aload_n 0, 1), (1, .iload_n 1, 1), (2, .invokevirtual 112, 3), (5, .aload_n 0, 1), (6, .getfield 19, 3), (9, .iload_n 1, 1), (10, .aload_n 0, 1), (11, .getfield 43, 3), (14, .invokevirtual 127, 3), (17, .istore_n 2, 1), (18, .iload_n 2, 1), (19, .ifCond .ne 5, 3), (22, .fconst 1, 1), (23, .freturn, 1), (24, .aload_n 0, 1), (25, .getfield 43, 3), (28, .invokevirtual 159, 3), (31, .i2f, 1), (32, .iload_n 2, 1), (33, .i2f, 1), (34, .fdiv, 1), (35, .freturn, 1)], [(19, false, 5, 1), (43, false, 5, 5)], [])
abbrev mX5_consistency : pm_M := (yX5_consistency, cX5_consistency, 3, (some .float), RX5)
theorem kX5_consistency : pm_Ib mX5_consistency iX5_consistency = true := by decide +kernel
def iX5_retention : pm_I := ([(0, .aload_n 0, 1), (1, .iload_n 1, 1), (2, .invokevirtual 112, 3), (5, .aload_n 0, 1), (6, .getfield 19, 3), (9, .iload_n 1, 1), (10, .aload_n 0, 1), (11, .getfield 43, 3), (14, .invokevirtual 127, 3), (17, .istore_n 2, 1), (18, .aload_n 0, 1), (19, .getfield 43, 3), (22, .invokevirtual 162, 3), (25, .istore_n 3, 1), (26, .iload_n 3, 1), (27, .aload_n 0, 1), (28, .getfield 43, 3), (31, .invokevirtual 159, 3), (34, .isub, 1), (35, .istore 4, 2), (37, .iload 4, 2), (39, .ifCond .ne 5, 3), (42, .fconst 1, 1), (43, .freturn, 1), (44, .iload_n 3, 1), (45, .iload_n 2, 1), (46, .isub, 1), (47, .i2f, 1), (48, .iload 4, 2), (50, .i2f, 1), (51, .fdiv, 1), (52, .freturn, 1)], [(19, false, 5, 1), (43, false, 5, 5)], [])
abbrev mX5_retention : pm_M := (yX5_retention, cX5_retention, 5, (some .float), RX5)
theorem kX5_retention : pm_Ib mX5_retention iX5_retention = true := by decide +kernel
def iX5_write : pm_I := ([(0, .aload_n 0, 1), (1, .iload_n 1, 1), (2, .invokevirtual 112, 3), (5, .aload_n 0, 1), (6, .getfield 19, 3), (9, .iload_n 1, 1), (10, .aload_n 0, 1), (11, .getfield 43, 3), (14, .getfield 79, 3), (17, .invokevirtual 115, 3), (20, .aload_n 0, 1), (21, .getfield 36, 3), (24, .invokevirtual 165, 3), (27, .iconst 0, 1), (28, .istore_n 2, 1), (29, .iload_n 2, 1), (30, .aload_n 0, 1), (31, .getfield 19, 3), (34, .invokevirtual 168, 3), (37, .if_icmp .ge 24, 3), (40, .aload_n 0, 1), (41, .getfield 36, 3), (44, .aload_n 0, 1), (45, .getfield 19, 3), (48, .iload_n 2, 1), (49, .invokevirtual 171, 3), (52, .invokevirtual 175, 3), (55, .iinc 2 1, 3), (58, .goto (-29), 3), (61, .aload_n 0, 1), (62, .getfield 36, 3), (65, .aload_n 0, 1), (66, .getfield 43, 3), (69, .getfield 79, 3), (72, .invokevirtual 178, 3), (75, .ireturn, 1)], [(19, false, 5, 1), (43, false, 5, 5), (79, true, 2, 2), (36, false, 5, 4)], [])
abbrev mX5_write : pm_M := (yX5_write, cX5_write, 3, (some .int), RX5)
theorem kX5_write : pm_Ib mX5_write iX5_write = true := by decide +kernel
def iX5_common : pm_I := ([(0, .aload_n 0, 1), (1, .invokevirtual 148, 3), (4, .fload_n 1, 1), (5, .ldc 181, 2), (7, .fcmp .l, 1), (8, .ifCond .lt 9, 3), (11, .fload_n 1, 1), (12, .fconst 1, 1), (13, .fcmp .g, 1), (14, .ifCond .le 13, 3), (17, .new 100, 3), (20, .dup, 1), (21, .ldc 182, 2), (23, .invokespecial 104, 3), (26, .athrow, 1), (27, .aload_n 0, 1), (28, .getfield 36, 3), (31, .invokevirtual 165, 3), (34, .iconst 0, 1), (35, .istore_n 2, 1), (36, .iload_n 2, 1), (37, .sipush 128, 3), (40, .if_icmp .ge 38, 3), (43, .aload_n 0, 1), (44, .getfield 29, 3), (47, .iload_n 2, 1), (48, .invokevirtual 151, 3), (51, .fstore_n 3, 1), (52, .fload_n 3, 1), (53, .fload_n 1, 1), (54, .fcmp .l, 1), (55, .ifCond .gt 9, 3), (58, .fload_n 3, 1), (59, .fconst 1, 1), (60, .fcmp .l, 1), (61, .ifCond .ne 11, 3), (64, .aload_n 0, 1), (65, .getfield 36, 3), (68, .iload_n 2, 1), (69, .invokevirtual 175, 3), (72, .iinc 2 1, 3), (75, .goto (-39), 3), (78, .aload_n 0, 1), (79, .getfield 36, 3), (82, .aload_n 0, 1), (83, .getfield 43, 3), (86, .getfield 79, 3), (89, .invokevirtual 178, 3), (92, .ireturn, 1)], [(36, false, 5, 4), (29, false, 5, 3), (43, false, 5, 5), (79, true, 2, 2)], [(181, .float 1056964608)])
abbrev mX5_common : pm_M := (yX5_common, cX5_common, 4, (some .int), RX5)
theorem kX5_common : pm_Ib mX5_common iX5_common = true := by decide +kernel
def iX5_written : pm_I := ([(0, .aload_n 0, 1), (1, .getfield 36, 3), (4, .iload_n 1, 1), (5, .invokevirtual 184, 3), (8, .ireturn, 1)], [(36, false, 5, 4)], [])
abbrev mX5_written : pm_M := (yX5_written, cX5_written, 2, (some .char), RX5)
theorem kX5_written : pm_Ib mX5_written iX5_written = true := by decide +kernel
def iX5_requireTree : pm_I := ([(0, .iload_n 1, 1), (1, .ifCond .lt 14, 3), (4, .iload_n 1, 1), (5, .aload_n 0, 1), (6, .getfield 43, 3), (9, .invokevirtual 109, 3), (12, .if_icmp .lt 13, 3), (15, .new 87, 3), (18, .dup, 1), (19, .ldc 188, 2), (21, .invokespecial 91, 3), (24, .athrow, 1), (25, .return_, 1)], [(43, false, 5, 5)], [])
abbrev mX5_requireTree : pm_M := (yX5_requireTree, cX5_requireTree, 2, none, RX5)
theorem kX5_requireTree : pm_Ib mX5_requireTree iX5_requireTree = true := by decide +kernel
def iX5_requireCharacter : pm_I := ([(0, .aload_n 0, 1), (1, .getfield 43, 3), (4, .iload_n 1, 1), (5, .invokevirtual 83, 3), (8, .ifCond .ne 13, 3), (11, .new 87, 3), (14, .dup, 1), (15, .ldc 190, 2), (17, .invokespecial 91, 3), (20, .athrow, 1), (21, .return_, 1)], [(43, false, 5, 5)], [])
abbrev mX5_requireCharacter : pm_M := (yX5_requireCharacter, cX5_requireCharacter, 2, none, RX5)
theorem kX5_requireCharacter : pm_Ib mX5_requireCharacter iX5_requireCharacter = true := by decide +kernel
def iX5_requireFinds : pm_I := ([(0, .aload_n 0, 1), (1, .getfield 29, 3), (4, .getfield 137, 3), (7, .ifCond .ne 13, 3), (10, .new 54, 3), (13, .dup, 1), (14, .ldc 192, 2), (16, .invokespecial 58, 3), (19, .athrow, 1), (20, .return_, 1)], [(29, false, 5, 3), (137, true, 0, 2)], [])
abbrev mX5_requireFinds : pm_M := (yX5_requireFinds, cX5_requireFinds, 1, none, RX5)
theorem kX5_requireFinds : pm_Ib mX5_requireFinds iX5_requireFinds = true := by decide +kernel
theorem gRX5_50 : ∀ x ∈ wsV RX5 50 RX3 yX3_isFull [Cond.code yX3_isFull cX3_isFull 1 (some .boolean)], x ∈ pm_tb := by decide +kernel
theorem vX3_isFull : yX3_isFull.cls = RX3 ∧ yX3_isFull.cls ≠ "java/lang/invoke/MethodHandle" ∧ yX3_isFull.cls ≠ "java/lang/invoke/VarHandle" ∧ (parseMethodDescriptor yX3_isFull.desc).map (fun d => d.parameters.length) = some 0 := by decide +kernel
theorem gRX5_61 : ∀ x ∈ wsV RX5 61 RX3 yX3_add [Cond.code yX3_add cX3_add 2 (some .int)], x ∈ pm_tb := by decide +kernel
theorem vX3_add : yX3_add.cls = RX3 ∧ yX3_add.cls ≠ "java/lang/invoke/MethodHandle" ∧ yX3_add.cls ≠ "java/lang/invoke/VarHandle" ∧ (parseMethodDescriptor yX3_add.desc).map (fun d => d.parameters.length) = some 1 := by decide +kernel
theorem gRX5_65 : ∀ x ∈ wsV RX5 65 RX3 yX3_readInto [Cond.code yX3_readInto cX3_readInto 3 (some .boolean)], x ∈ pm_tb := by decide +kernel
theorem vX3_readInto : yX3_readInto.cls = RX3 ∧ yX3_readInto.cls ≠ "java/lang/invoke/MethodHandle" ∧ yX3_readInto.cls ≠ "java/lang/invoke/VarHandle" ∧ (parseMethodDescriptor yX3_readInto.desc).map (fun d => d.parameters.length) = some 1 := by decide +kernel
theorem gRX5_69 : ∀ x ∈ wsV RX5 69 RX3 yX3_place [Cond.code yX3_place cX3_place 1 (some .int)], x ∈ pm_tb := by decide +kernel
theorem vX3_place : yX3_place.cls = RX3 ∧ yX3_place.cls ≠ "java/lang/invoke/MethodHandle" ∧ yX3_place.cls ≠ "java/lang/invoke/VarHandle" ∧ (parseMethodDescriptor yX3_place.desc).map (fun d => d.parameters.length) = some 0 := by decide +kernel
theorem gRX5_73 : ∀ x ∈ wsV RX5 73 RX3 yX3_empty [Cond.code yX3_empty cX3_empty 1 none], x ∈ pm_tb := by decide +kernel
theorem vX3_empty : yX3_empty.cls = RX3 ∧ yX3_empty.cls ≠ "java/lang/invoke/MethodHandle" ∧ yX3_empty.cls ≠ "java/lang/invoke/VarHandle" ∧ (parseMethodDescriptor yX3_empty.desc).map (fun d => d.parameters.length) = some 0 := by decide +kernel
theorem gRX5_76 : ∀ x ∈ wsV RX5 76 RX0 yX0_forget [Cond.code yX0_forget cX0_forget 1 none], x ∈ pm_tb := by decide +kernel
theorem vX0_forget : yX0_forget.cls = RX0 ∧ yX0_forget.cls ≠ "java/lang/invoke/MethodHandle" ∧ yX0_forget.cls ≠ "java/lang/invoke/VarHandle" ∧ (parseMethodDescriptor yX0_forget.desc).map (fun d => d.parameters.length) = some 0 := by decide +kernel
theorem gRX5_83 : ∀ x ∈ wsV RX5 83 RX2 yX2_hasCharacter [Cond.code yX2_hasCharacter cX2_hasCharacter 2 (some .boolean)], x ∈ pm_tb := by decide +kernel
theorem vX2_hasCharacter : yX2_hasCharacter.cls = RX2 ∧ yX2_hasCharacter.cls ≠ "java/lang/invoke/MethodHandle" ∧ yX2_hasCharacter.cls ≠ "java/lang/invoke/VarHandle" ∧ (parseMethodDescriptor yX2_hasCharacter.desc).map (fun d => d.parameters.length) = some 1 := by decide +kernel
theorem gRX5_92 : ∀ x ∈ wsV RX5 92 RX2 yX2_setOf [Cond.code yX2_setOf cX2_setOf 3 (some .int)], x ∈ pm_tb := by decide +kernel
theorem gRX5_96 : ∀ x ∈ wsV RX5 96 RX5 yX5_requireCharacter [Cond.code yX5_requireCharacter cX5_requireCharacter 2 none], x ∈ pm_tb := by decide +kernel
theorem vX5_requireCharacter : yX5_requireCharacter.cls = RX5 ∧ yX5_requireCharacter.cls ≠ "java/lang/invoke/MethodHandle" ∧ yX5_requireCharacter.cls ≠ "java/lang/invoke/VarHandle" ∧ (parseMethodDescriptor yX5_requireCharacter.desc).map (fun d => d.parameters.length) = some 1 := by decide +kernel
theorem gRX5_109 : ∀ x ∈ wsV RX5 109 RX2 yX2_treeCount [Cond.code yX2_treeCount cX2_treeCount 3 (some .int)], x ∈ pm_tb := by decide +kernel
theorem gRX5_112 : ∀ x ∈ wsV RX5 112 RX5 yX5_requireTree [Cond.code yX5_requireTree cX5_requireTree 2 none], x ∈ pm_tb := by decide +kernel
theorem vX5_requireTree : yX5_requireTree.cls = RX5 ∧ yX5_requireTree.cls ≠ "java/lang/invoke/MethodHandle" ∧ yX5_requireTree.cls ≠ "java/lang/invoke/VarHandle" ∧ (parseMethodDescriptor yX5_requireTree.desc).map (fun d => d.parameters.length) = some 1 := by decide +kernel
theorem gRX5_115 : ∀ x ∈ wsV RX5 115 RX4 yX4_grow [Cond.code yX4_grow cX4_grow 4 none], x ∈ pm_tb := by decide +kernel
theorem gRX5_119 : ∀ x ∈ wsV RX5 119 RX4 yX4_packedChanges [Cond.code yX4_packedChanges cX4_packedChanges 8 (some .long)], x ∈ pm_tb := by decide +kernel
theorem gRX5_123 : ∀ x ∈ wsV RX5 123 RX2 yX2_bitsOf [Cond.code yX2_bitsOf cX2_bitsOf 4 (some .int)], x ∈ pm_tb := by decide +kernel
theorem gRX5_127 : ∀ x ∈ wsV RX5 127 RX4 yX4_growAndMeasure [Cond.code yX4_growAndMeasure cX4_growAndMeasure 3 (some .int)], x ∈ pm_tb := by decide +kernel
theorem gRX5_133 : ∀ x ∈ wsV RX5 133 RX0 yX0_gather [Cond.code yX0_gather cX0_gather 7 (some .int)], x ∈ pm_tb := by decide +kernel
theorem vX0_gather : yX0_gather.cls = RX0 ∧ yX0_gather.cls ≠ "java/lang/invoke/MethodHandle" ∧ yX0_gather.cls ≠ "java/lang/invoke/VarHandle" ∧ (parseMethodDescriptor yX0_gather.desc).map (fun d => d.parameters.length) = some 2 := by decide +kernel
theorem gRX5_145 : ∀ x ∈ wsV RX5 145 RX4 yX4_hasSplit [Cond.code yX4_hasSplit cX4_hasSplit 3 (some .boolean)], x ∈ pm_tb := by decide +kernel
theorem gRX5_148 : ∀ x ∈ wsV RX5 148 RX5 yX5_requireFinds [Cond.code yX5_requireFinds cX5_requireFinds 1 none], x ∈ pm_tb := by decide +kernel
theorem vX5_requireFinds : yX5_requireFinds.cls = RX5 ∧ yX5_requireFinds.cls ≠ "java/lang/invoke/MethodHandle" ∧ yX5_requireFinds.cls ≠ "java/lang/invoke/VarHandle" ∧ (parseMethodDescriptor yX5_requireFinds.desc).map (fun d => d.parameters.length) = some 0 := by decide +kernel
theorem gRX5_151 : ∀ x ∈ wsV RX5 151 RX0 yX0_shareOf [Cond.code yX0_shareOf cX0_shareOf 2 (some .float)], x ∈ pm_tb := by decide +kernel
theorem vX0_shareOf : yX0_shareOf.cls = RX0 ∧ yX0_shareOf.cls ≠ "java/lang/invoke/MethodHandle" ∧ yX0_shareOf.cls ≠ "java/lang/invoke/VarHandle" ∧ (parseMethodDescriptor yX0_shareOf.desc).map (fun d => d.parameters.length) = some 1 := by decide +kernel
theorem gRX5_155 : ∀ x ∈ wsV RX5 155 RX4 yX4_splitsNotIn [Cond.code yX4_splitsNotIn cX4_splitsNotIn 4 (some .int)], x ∈ pm_tb := by decide +kernel
theorem vX4_splitsNotIn : yX4_splitsNotIn.cls = RX4 ∧ yX4_splitsNotIn.cls ≠ "java/lang/invoke/MethodHandle" ∧ yX4_splitsNotIn.cls ≠ "java/lang/invoke/VarHandle" ∧ (parseMethodDescriptor yX4_splitsNotIn.desc).map (fun d => d.parameters.length) = some 1 := by decide +kernel
theorem gRX5_159 : ∀ x ∈ wsV RX5 159 RX2 yX2_least [Cond.code yX2_least cX2_least 3 (some .int)], x ∈ pm_tb := by decide +kernel
theorem vX2_least : yX2_least.cls = RX2 ∧ yX2_least.cls ≠ "java/lang/invoke/MethodHandle" ∧ yX2_least.cls ≠ "java/lang/invoke/VarHandle" ∧ (parseMethodDescriptor yX2_least.desc).map (fun d => d.parameters.length) = some 0 := by decide +kernel
theorem gRX5_162 : ∀ x ∈ wsV RX5 162 RX2 yX2_most [Cond.code yX2_most cX2_most 3 (some .int)], x ∈ pm_tb := by decide +kernel
theorem vX2_most : yX2_most.cls = RX2 ∧ yX2_most.cls ≠ "java/lang/invoke/MethodHandle" ∧ yX2_most.cls ≠ "java/lang/invoke/VarHandle" ∧ (parseMethodDescriptor yX2_most.desc).map (fun d => d.parameters.length) = some 0 := by decide +kernel
theorem gRX5_165 : ∀ x ∈ wsV RX5 165 RX1 yX1_forgetGroups [Cond.code yX1_forgetGroups cX1_forgetGroups 1 none], x ∈ pm_tb := by decide +kernel
theorem vX1_forgetGroups : yX1_forgetGroups.cls = RX1 ∧ yX1_forgetGroups.cls ≠ "java/lang/invoke/MethodHandle" ∧ yX1_forgetGroups.cls ≠ "java/lang/invoke/VarHandle" ∧ (parseMethodDescriptor yX1_forgetGroups.desc).map (fun d => d.parameters.length) = some 0 := by decide +kernel
theorem gRX5_168 : ∀ x ∈ wsV RX5 168 RX4 yX4_splitCount [Cond.code yX4_splitCount cX4_splitCount 1 (some .int)], x ∈ pm_tb := by decide +kernel
theorem gRX5_171 : ∀ x ∈ wsV RX5 171 RX4 yX4_splitAt [Cond.code yX4_splitAt cX4_splitAt 2 (some .int)], x ∈ pm_tb := by decide +kernel
theorem gRX5_175 : ∀ x ∈ wsV RX5 175 RX1 yX1_addGroup [Cond.code yX1_addGroup cX1_addGroup 2 none], x ∈ pm_tb := by decide +kernel
theorem vX1_addGroup : yX1_addGroup.cls = RX1 ∧ yX1_addGroup.cls ≠ "java/lang/invoke/MethodHandle" ∧ yX1_addGroup.cls ≠ "java/lang/invoke/VarHandle" ∧ (parseMethodDescriptor yX1_addGroup.desc).map (fun d => d.parameters.length) = some 1 := by decide +kernel
theorem gRX5_178 : ∀ x ∈ wsV RX5 178 RX1 yX1_fill [Cond.code yX1_fill cX1_fill 2 (some .int)], x ∈ pm_tb := by decide +kernel
theorem vX1_fill : yX1_fill.cls = RX1 ∧ yX1_fill.cls ≠ "java/lang/invoke/MethodHandle" ∧ yX1_fill.cls ≠ "java/lang/invoke/VarHandle" ∧ (parseMethodDescriptor yX1_fill.desc).map (fun d => d.parameters.length) = some 1 := by decide +kernel
theorem gRX5_184 : ∀ x ∈ wsV RX5 184 RX1 yX1_signAt [Cond.code yX1_signAt cX1_signAt 2 (some .char)], x ∈ pm_tb := by decide +kernel
theorem vX1_signAt : yX1_signAt.cls = RX1 ∧ yX1_signAt.cls ≠ "java/lang/invoke/MethodHandle" ∧ yX1_signAt.cls ≠ "java/lang/invoke/VarHandle" ∧ (parseMethodDescriptor yX1_signAt.desc).map (fun d => d.parameters.length) = some 1 := by decide +kernel
end
section
def iX6_init : pm_I := ([(0, .aload_n 0, 1), (1, .invokespecial 1, 3), (4, .aload_n 0, 1), (5, .sipush 160, 3), (8, .newarray .char, 2), (10, .putfield 7, 3), (13, .aload_n 0, 1), (14, .bipush 112, 2), (16, .newarray .int, 2), (18, .putfield 13, 3), (21, .aload_n 0, 1), (22, .bipush 16, 2), (24, .newarray .int, 2), (26, .putfield 17, 3), (29, .aload_n 0, 1), (30, .bipush 112, 2), (32, .newarray .int, 2), (34, .putfield 20, 3), (37, .aload_n 0, 1), (38, .sipush 945, 3), (41, .newarray .int, 2), (43, .putfield 23, 3), (46, .aload_n 0, 1), (47, .bipush 16, 2), (49, .newarray .int, 2), (51, .putfield 26, 3), (54, .aload_n 0, 1), (55, .bipush 16, 2), (57, .newarray .int, 2), (59, .putfield 29, 3), (62, .aload_n 0, 1), (63, .bipush 16, 2), (65, .newarray .int, 2), (67, .putfield 32, 3), (70, .aload_n 0, 1), (71, .bipush 16, 2), (73, .newarray .boolean, 2), (75, .putfield 35, 3), (78, .aload_n 0, 1), (79, .bipush 64, 2), (81, .newarray .int, 2), (83, .putfield 39, 3), (86, .aload_n 0, 1), (87, .bipush 8, 2), (89, .newarray .int, 2), (91, .putfield 42, 3), (94, .aload_n 0, 1), (95, .bipush 8, 2), (97, .newarray .int, 2), (99, .putfield 45, 3), (102, .aload_n 0, 1), (103, .bipush 64, 2), (105, .newarray .char, 2), (107, .putfield 48, 3), (110, .aload_n 0, 1), (111, .bipush 64, 2), (113, .newarray .int, 2), (115, .putfield 51, 3), (118, .return_, 1)], [(7, false, 6, 1), (13, false, 6, 6), (17, false, 6, 7), (20, false, 6, 8), (23, false, 6, 12), (26, false, 6, 14), (29, false, 6, 15), (32, false, 6, 16), (35, false, 6, 17), (39, false, 6, 18), (42, false, 6, 20), (45, false, 6, 22), (48, false, 6, 24), (51, false, 6, 25)], [])
abbrev mX6_init : pm_M := (yX6_init, cX6_init, 1, none, RX6)
theorem kX6_init : pm_Ib mX6_init iX6_init = true := by decide +kernel
def iX6_thrown : pm_I := ([(0, .aload_n 0, 1), (1, .getfield 54, 3), (4, .ireturn, 1)], [(54, false, 6, 26)], [])
abbrev mX6_thrown : pm_M := (yX6_thrown, cX6_thrown, 1, (some .int), RX6)
theorem kX6_thrown : pm_Ib mX6_thrown iX6_thrown = true := by decide +kernel
def iX6_type : pm_I := ([(0, .aload_n 0, 1), (1, .aload_n 0, 1), (2, .getfield 58, 3), (5, .sipush 160, 3), (8, .if_icmp .ne 7, 3), (11, .iconst 1, 1), (12, .goto 4, 3), (15, .iconst 0, 1), (16, .putfield 54, 3), (19, .aload_n 0, 1), (20, .getfield 54, 3), (23, .ifCond .eq 5, 3), (26, .iconst 0, 1), (27, .ireturn, 1), (28, .aload_n 0, 1), (29, .getfield 7, 3), (32, .aload_n 0, 1), (33, .getfield 58, 3), (36, .iload_n 1, 1), (37, .castore, 1), (38, .aload_n 0, 1), (39, .dup, 1), (40, .getfield 58, 3), (43, .iconst 1, 1), (44, .iadd, 1), (45, .putfield 58, 3), (48, .aload_n 0, 1), (49, .getfield 58, 3), (52, .ireturn, 1)], [(58, false, 6, 0), (54, false, 6, 26), (7, false, 6, 1)], [])
abbrev mX6_type : pm_M := (yX6_type, cX6_type, 2, (some .int), RX6)
theorem kX6_type : pm_Ib mX6_type iX6_type = true := by decide +kernel
def iX6_here : pm_I := ([(0, .aload_n 0, 1), (1, .getfield 61, 3), (4, .aload_n 0, 1), (5, .getfield 58, 3), (8, .if_icmp .ge 15, 3), (11, .aload_n 0, 1), (12, .getfield 7, 3), (15, .aload_n 0, 1), (16, .getfield 61, 3), (19, .caload, 1), (20, .goto 4, 3), (23, .iconst (-1), 1), (24, .ireturn, 1)], [(61, false, 6, 2), (58, false, 6, 0), (7, false, 6, 1)], [])
abbrev mX6_here : pm_M := (yX6_here, cX6_here, 1, (some .int), RX6)
theorem kX6_here : pm_Ib mX6_here iX6_here = true := by decide +kernel
def iX6_wrong : pm_I := ([(0, .aload_n 0, 1), (1, .aload_n 0, 1), (2, .getfield 64, 3), (5, .ifCond .ge 10, 3), (8, .aload_n 0, 1), (9, .getfield 61, 3), (12, .goto 7, 3), (15, .aload_n 0, 1), (16, .getfield 64, 3), (19, .putfield 64, 3), (22, .return_, 1)], [(64, false, 6, 3), (61, false, 6, 2)], [])
abbrev mX6_wrong : pm_M := (yX6_wrong, cX6_wrong, 1, none, RX6)
theorem kX6_wrong : pm_Ib mX6_wrong iX6_wrong = true := by decide +kernel
def iX6_must : pm_I := ([(0, .aload_n 0, 1), (1, .invokevirtual 67, 3), (4, .iload_n 1, 1), (5, .if_icmp .ne 16, 3), (8, .aload_n 0, 1), (9, .dup, 1), (10, .getfield 61, 3), (13, .iconst 1, 1), (14, .iadd, 1), (15, .putfield 61, 3), (18, .goto 7, 3), (21, .aload_n 0, 1), (22, .invokevirtual 71, 3), (25, .return_, 1)], [(61, false, 6, 2)], [])
abbrev mX6_must : pm_M := (yX6_must, cX6_must, 2, none, RX6)
theorem kX6_must : pm_Ib mX6_must iX6_must = true := by decide +kernel
def iX6_isState : pm_I := ([(0, .iload_n 0, 1), (1, .bipush 48, 2), (3, .if_icmp .lt 13, 3), (6, .iload_n 0, 1), (7, .bipush 51, 2), (9, .if_icmp .gt 7, 3), (12, .iconst 1, 1), (13, .goto 4, 3), (16, .iconst 0, 1), (17, .ireturn, 1)], [], [])
abbrev mX6_isState : pm_M := (yX6_isState, cX6_isState, 1, (some .boolean), RX6)
theorem kX6_isState : pm_Ib mX6_isState iX6_isState = true := by decide +kernel
def iX6_entry : pm_I := ([(0, .aload_n 0, 1), (1, .invokevirtual 67, 3), (4, .istore_n 1, 1), (5, .iload_n 1, 1), (6, .invokestatic 74, 3), (9, .ifCond .eq 20, 3), (12, .aload_n 0, 1), (13, .dup, 1), (14, .getfield 61, 3), (17, .iconst 1, 1), (18, .iadd, 1), (19, .putfield 61, 3), (22, .iconst 1, 1), (23, .iload_n 1, 1), (24, .bipush 48, 2), (26, .isub, 1), (27, .ishl, 1), (28, .ireturn, 1), (29, .iload_n 1, 1), (30, .bipush 63, 2), (32, .if_icmp .ne 16, 3), (35, .aload_n 0, 1), (36, .dup, 1), (37, .getfield 61, 3), (40, .iconst 1, 1), (41, .iadd, 1), (42, .putfield 61, 3), (45, .bipush 15, 2), (47, .ireturn, 1), (48, .iload_n 1, 1), (49, .bipush 123, 2), (51, .if_icmp .eq 9, 3), (54, .aload_n 0, 1), (55, .invokevirtual 71, 3), (58, .iconst 0, 1), (59, .ireturn, 1), (60, .aload_n 0, 1), (61, .dup, 1), (62, .getfield 61, 3), (65, .iconst 1, 1), (66, .iadd, 1), (67, .putfield 61, 3), (70, .iconst 0, 1), (71, .istore_n 2, 1), (72, .bipush 47, 2), (74, .istore_n 3, 1), (75, .aload_n 0, 1), (76, .getfield 64, 3), (79, .ifCond .ge 68, 3), (82, .aload_n 0, 1), (83, .invokevirtual 67, 3), (86, .bipush 125, 2), (88, .if_icmp .ne 7, 3), (91, .iload_n 2, 1), (92, .ifCond .ne 55, 3), (95, .aload_n 0, 1), (96, .invokevirtual 67, 3), (99, .invokestatic 74, 3), (102, .ifCond .eq 11, 3), (105, .aload_n 0, 1), (106, .invokevirtual 67, 3), (109, .iload_n 3, 1), (110, .if_icmp .gt 10, 3), (113, .aload_n 0, 1), (114, .invokevirtual 71, 3), (117, .goto (-42), 3), (120, .aload_n 0, 1), (121, .invokevirtual 67, 3), (124, .istore_n 3, 1), (125, .iload_n 2, 1), (126, .iconst 1, 1), (127, .iload_n 3, 1), (128, .bipush 48, 2), (130, .isub, 1), (131, .ishl, 1), (132, .ior, 1), (133, .istore_n 2, 1), (134, .aload_n 0, 1), (135, .dup, 1), (136, .getfield 61, 3), (139, .iconst 1, 1), (140, .iadd, 1), (141, .putfield 61, 3), (144, .goto (-69), 3), (147, .aload_n 0, 1), (148, .bipush 125, 2), (150, .invokevirtual 78, 3), (153, .iload_n 2, 1), (154, .ireturn, 1)], [(61, false, 6, 2), (64, false, 6, 3)], [])
abbrev mX6_entry : pm_M := (yX6_entry, cX6_entry, 4, (some .int), RX6)
theorem kX6_entry : pm_Ib mX6_entry iX6_entry = true := by decide +kernel
def iX6_row : pm_I := ([(0, .aload_n 0, 1), (1, .getfield 82, 3), (4, .bipush 7, 2), (6, .if_icmp .ne 8, 3), (9, .aload_n 0, 1), (10, .invokevirtual 71, 3), (13, .return_, 1), (14, .aload_n 0, 1), (15, .bipush 97, 2), (17, .aload_n 0, 1), (18, .getfield 82, 3), (21, .iadd, 1), (22, .invokevirtual 78, 3), (25, .aload_n 0, 1), (26, .getfield 64, 3), (29, .ifCond .ge 9, 3), (32, .aload_n 0, 1), (33, .bipush 32, 2), (35, .invokevirtual 78, 3), (38, .iconst 0, 1), (39, .istore_n 1, 1), (40, .aload_n 0, 1), (41, .getfield 64, 3), (44, .ifCond .ge 82, 3), (47, .aload_n 0, 1), (48, .invokevirtual 67, 3), (51, .bipush 59, 2), (53, .if_icmp .ne 22, 3), (56, .iload_n 1, 1), (57, .aload_n 0, 1), (58, .getfield 82, 3), (61, .ifCond .ne 7, 3), (64, .iconst 1, 1), (65, .goto 7, 3), (68, .aload_n 0, 1), (69, .getfield 85, 3), (72, .if_icmp .ge 54, 3), (75, .iload_n 1, 1), (76, .aload_n 0, 1), (77, .getfield 82, 3), (80, .ifCond .ne 8, 3), (83, .bipush 16, 2), (85, .goto 7, 3), (88, .aload_n 0, 1), (89, .getfield 85, 3), (92, .if_icmp .ne 10, 3), (95, .aload_n 0, 1), (96, .invokevirtual 71, 3), (99, .goto (-59), 3), (102, .aload_n 0, 1), (103, .getfield 20, 3), (106, .bipush 16, 2), (108, .aload_n 0, 1), (109, .getfield 82, 3), (112, .imul, 1), (113, .iload_n 1, 1), (114, .iadd, 1), (115, .aload_n 0, 1), (116, .invokevirtual 88, 3), (119, .iastore, 1), (120, .iinc 1 1, 3), (123, .goto (-83), 3), (126, .aload_n 0, 1), (127, .getfield 64, 3), (130, .ifCond .ge 28, 3), (133, .aload_n 0, 1), (134, .dup, 1), (135, .getfield 61, 3), (138, .iconst 1, 1), (139, .iadd, 1), (140, .putfield 61, 3), (143, .aload_n 0, 1), (144, .iload_n 1, 1), (145, .putfield 85, 3), (148, .aload_n 0, 1), (149, .dup, 1), (150, .getfield 82, 3), (153, .iconst 1, 1), (154, .iadd, 1), (155, .putfield 82, 3), (158, .return_, 1)], [(82, false, 6, 9), (64, false, 6, 3), (85, false, 6, 10), (20, false, 6, 8), (61, false, 6, 2)], [])
abbrev mX6_row : pm_M := (yX6_row, cX6_row, 2, none, RX6)
theorem kX6_row : pm_Ib mX6_row iX6_row = true := by decide +kernel
def iX6_table : pm_I := ([(0, .aload_n 0, 1), (1, .iconst 0, 1), (2, .putfield 54, 3), (5, .aload_n 0, 1), (6, .iconst 0, 1), (7, .putfield 61, 3), (10, .aload_n 0, 1), (11, .iconst (-1), 1), (12, .putfield 64, 3), (15, .aload_n 0, 1), (16, .iconst 0, 1), (17, .putfield 82, 3), (20, .aload_n 0, 1), (21, .iconst 0, 1), (22, .putfield 85, 3), (25, .aload_n 0, 1), (26, .invokevirtual 91, 3), (29, .aload_n 0, 1), (30, .getfield 64, 3), (33, .ifCond .ge 21, 3), (36, .aload_n 0, 1), (37, .getfield 61, 3), (40, .aload_n 0, 1), (41, .getfield 58, 3), (44, .if_icmp .ge 10, 3), (47, .aload_n 0, 1), (48, .invokevirtual 91, 3), (51, .goto (-22), 3), (54, .aload_n 0, 1), (55, .iconst 0, 1), (56, .putfield 58, 3), (59, .aload_n 0, 1), (60, .getfield 64, 3), (63, .ifCond .lt 11, 3), (66, .bipush (-100), 2), (68, .aload_n 0, 1), (69, .getfield 64, 3), (72, .isub, 1), (73, .ireturn, 1), (74, .aload_n 0, 1), (75, .aload_n 0, 1), (76, .getfield 82, 3), (79, .putfield 94, 3), (82, .aload_n 0, 1), (83, .aload_n 0, 1), (84, .getfield 85, 3), (87, .putfield 97, 3), (90, .iconst 0, 1), (91, .istore_n 1, 1), (92, .iload_n 1, 1), (93, .bipush 112, 2), (95, .if_icmp .ge 21, 3), (98, .aload_n 0, 1), (99, .getfield 13, 3), (102, .iload_n 1, 1), (103, .aload_n 0, 1), (104, .getfield 20, 3), (107, .iload_n 1, 1), (108, .iaload, 1), (109, .iastore, 1), (110, .iinc 1 1, 3), (113, .goto (-21), 3), (116, .iconst 0, 1), (117, .istore_n 1, 1), (118, .iload_n 1, 1), (119, .bipush 16, 2), (121, .if_icmp .ge 16, 3), (124, .aload_n 0, 1), (125, .getfield 17, 3), (128, .iload_n 1, 1), (129, .iconst 1, 1), (130, .iastore, 1), (131, .iinc 1 1, 3), (134, .goto (-16), 3), (137, .aload_n 0, 1), (138, .iconst 0, 1), (139, .putfield 100, 3), (142, .aload_n 0, 1), (143, .getfield 94, 3), (146, .ireturn, 1)], [(54, false, 6, 26), (61, false, 6, 2), (64, false, 6, 3), (82, false, 6, 9), (85, false, 6, 10), (58, false, 6, 0), (94, false, 6, 4), (97, false, 6, 5), (13, false, 6, 6), (20, false, 6, 8), (17, false, 6, 7), (100, false, 6, 11)], [])
abbrev mX6_table : pm_M := (yX6_table, cX6_table, 2, (some .int), RX6)
theorem kX6_table : pm_Ib mX6_table iX6_table = true := by decide +kernel
def iX6_isCharacter : pm_I := ([(0, .iload_n 1, 1), (1, .ifCond .lt 15, 3), (4, .iload_n 1, 1), (5, .aload_n 0, 1), (6, .getfield 97, 3), (9, .if_icmp .ge 7, 3), (12, .iconst 1, 1), (13, .goto 4, 3), (16, .iconst 0, 1), (17, .ireturn, 1)], [(97, false, 6, 5)], [])
abbrev mX6_isCharacter : pm_M := (yX6_isCharacter, cX6_isCharacter, 2, (some .boolean), RX6)
theorem kX6_isCharacter : pm_Ib mX6_isCharacter iX6_isCharacter = true := by decide +kernel
def iX6_states : pm_I := ([(0, .aload_n 0, 1), (1, .iload_n 1, 1), (2, .ifCond .lt 19, 3), (5, .iload_n 1, 1), (6, .aload_n 0, 1), (7, .getfield 94, 3), (10, .if_icmp .ge 11, 3), (13, .aload_n 0, 1), (14, .iload_n 2, 1), (15, .invokevirtual 103, 3), (18, .ifCond .ne 7, 3), (21, .iconst 1, 1), (22, .goto 4, 3), (25, .iconst 0, 1), (26, .putfield 54, 3), (29, .aload_n 0, 1), (30, .getfield 54, 3), (33, .ifCond .ne 17, 3), (36, .aload_n 0, 1), (37, .getfield 13, 3), (40, .bipush 16, 2), (42, .iload_n 1, 1), (43, .imul, 1), (44, .iload_n 2, 1), (45, .iadd, 1), (46, .iaload, 1), (47, .goto 4, 3), (50, .iconst 0, 1), (51, .ireturn, 1)], [(94, false, 6, 4), (54, false, 6, 26), (13, false, 6, 6)], [])
abbrev mX6_states : pm_M := (yX6_states, cX6_states, 3, (some .int), RX6)
theorem kX6_states : pm_Ib mX6_states iX6_states = true := by decide +kernel
def iX6_weigh : pm_I := ([(0, .aload_n 0, 1), (1, .aload_n 0, 1), (2, .iload_n 1, 1), (3, .invokevirtual 103, 3), (6, .ifCond .ne 7, 3), (9, .iconst 1, 1), (10, .goto 19, 3), (13, .iload_n 2, 1), (14, .iconst 1, 1), (15, .if_icmp .lt 9, 3), (18, .iload_n 2, 1), (19, .bipush 9, 2), (21, .if_icmp .le 7, 3), (24, .iconst 2, 1), (25, .goto 4, 3), (28, .iconst 0, 1), (29, .putfield 54, 3), (32, .aload_n 0, 1), (33, .getfield 54, 3), (36, .ifCond .eq 5, 3), (39, .iconst 0, 1), (40, .ireturn, 1), (41, .aload_n 0, 1), (42, .getfield 17, 3), (45, .iload_n 1, 1), (46, .iaload, 1), (47, .istore_n 3, 1), (48, .aload_n 0, 1), (49, .getfield 17, 3), (52, .iload_n 1, 1), (53, .iload_n 2, 1), (54, .iastore, 1), (55, .aload_n 0, 1), (56, .iconst 0, 1), (57, .putfield 100, 3), (60, .iload_n 3, 1), (61, .ireturn, 1)], [(54, false, 6, 26), (17, false, 6, 7), (100, false, 6, 11)], [])
abbrev mX6_weigh : pm_M := (yX6_weigh, cX6_weigh, 4, (some .int), RX6)
theorem kX6_weigh : pm_Ib mX6_weigh iX6_weigh = true := by decide +kernel
def iX6_many : pm_I := ([(0, .aload_n 0, 1), (1, .getfield 94, 3), (4, .iconst 3, 1), (5, .if_icmp .ge 7, 3), (8, .iconst 0, 1), (9, .goto 4, 3), (12, .iconst 1, 1), (13, .istore_n 1, 1), (14, .iconst 3, 1), (15, .istore_n 2, 1), (16, .iload_n 2, 1), (17, .aload_n 0, 1), (18, .getfield 94, 3), (21, .if_icmp .ge 17, 3), (24, .iload_n 1, 1), (25, .iconst 2, 1), (26, .iload_n 2, 1), (27, .imul, 1), (28, .iconst 3, 1), (29, .isub, 1), (30, .imul, 1), (31, .istore_n 1, 1), (32, .iinc 2 1, 3), (35, .goto (-19), 3), (38, .iload_n 1, 1), (39, .ireturn, 1)], [(94, false, 6, 4)], [])
abbrev mX6_many : pm_M := (yX6_many, cX6_many, 3, (some .int), RX6)
theorem kX6_many : pm_Ib mX6_many iX6_many = true := by decide +kernel
def iX6_trees : pm_I := ([(0, .aload_n 0, 1), (1, .iconst 0, 1), (2, .putfield 54, 3), (5, .aload_n 0, 1), (6, .invokevirtual 106, 3), (9, .ireturn, 1)], [(54, false, 6, 26)], [])
abbrev mX6_trees : pm_M := (yX6_trees, cX6_trees, 1, (some .int), RX6)
theorem kX6_trees : pm_Ib mX6_trees iX6_trees = true := by decide +kernel
def iX6_isTree : pm_I := ([(0, .iload_n 1, 1), (1, .ifCond .lt 15, 3), (4, .iload_n 1, 1), (5, .aload_n 0, 1), (6, .invokevirtual 106, 3), (9, .if_icmp .ge 7, 3), (12, .iconst 1, 1), (13, .goto 4, 3), (16, .iconst 0, 1), (17, .ireturn, 1)], [], [])
abbrev mX6_isTree : pm_M := (yX6_isTree, cX6_isTree, 2, (some .boolean), RX6)
theorem kX6_isTree : pm_Ib mX6_isTree iX6_isTree = true := by decide +kernel
def iX6_replace : pm_I := ([(0, .aload_n 0, 1), (1, .getfield 109, 3), (4, .iload_n 1, 1), (5, .if_icmp .ne 8, 3), (8, .aload_n 0, 1), (9, .iload_n 2, 1), (10, .putfield 109, 3), (13, .bipush 10, 2), (15, .istore_n 3, 1), (16, .iload_n 3, 1), (17, .bipush 16, 2), (19, .if_icmp .ge 71, 3), (22, .aload_n 0, 1), (23, .getfield 26, 3), (26, .iload_n 3, 1), (27, .aload_n 0, 1), (28, .getfield 26, 3), (31, .iload_n 3, 1), (32, .iaload, 1), (33, .iload_n 1, 1), (34, .if_icmp .ne 12, 3), (37, .iload_n 3, 1), (38, .iload_n 2, 1), (39, .if_icmp .eq 7, 3), (42, .iload_n 2, 1), (43, .goto 9, 3), (46, .aload_n 0, 1), (47, .getfield 26, 3), (50, .iload_n 3, 1), (51, .iaload, 1), (52, .iastore, 1), (53, .aload_n 0, 1), (54, .getfield 29, 3), (57, .iload_n 3, 1), (58, .aload_n 0, 1), (59, .getfield 29, 3), (62, .iload_n 3, 1), (63, .iaload, 1), (64, .iload_n 1, 1), (65, .if_icmp .ne 12, 3), (68, .iload_n 3, 1), (69, .iload_n 2, 1), (70, .if_icmp .eq 7, 3), (73, .iload_n 2, 1), (74, .goto 9, 3), (77, .aload_n 0, 1), (78, .getfield 29, 3), (81, .iload_n 3, 1), (82, .iaload, 1), (83, .iastore, 1), (84, .iinc 3 1, 3), (87, .goto (-71), 3), (90, .return_, 1)], [(109, false, 6, 13), (26, false, 6, 14), (29, false, 6, 15)], [])
abbrev mX6_replace : pm_M := (yX6_replace, cX6_replace, 4, none, RX6)
theorem kX6_replace : pm_Ib mX6_replace iX6_replace = true := by decide +kernel
def iX6_choice : pm_I := ([(0, .iload_n 1, 1), (1, .istore_n 3, 1), (2, .aload_n 0, 1), (3, .getfield 94, 3), (6, .iconst 1, 1), (7, .isub, 1), (8, .istore 4, 2), (10, .iload 4, 2), (12, .iload_n 2, 1), (13, .if_icmp .le 18, 3), (16, .iload_n 3, 1), (17, .iconst 2, 1), (18, .iload 4, 2), (20, .imul, 1), (21, .iconst 3, 1), (22, .isub, 1), (23, .idiv, 1), (24, .istore_n 3, 1), (25, .iinc 4 (-1), 3), (28, .goto (-18), 3), (31, .iload_n 2, 1), (32, .iconst 3, 1), (33, .if_icmp .ge 7, 3), (36, .iconst 0, 1), (37, .goto 10, 3), (40, .iload_n 3, 1), (41, .iconst 2, 1), (42, .iload_n 2, 1), (43, .imul, 1), (44, .iconst 3, 1), (45, .isub, 1), (46, .irem, 1), (47, .ireturn, 1)], [(94, false, 6, 4)], [])
abbrev mX6_choice : pm_M := (yX6_choice, cX6_choice, 5, (some .int), RX6)
theorem kX6_choice : pm_Ib mX6_choice iX6_choice = true := by decide +kernel
def iX6_grow : pm_I := ([(0, .aload_n 0, 1), (1, .iconst 1, 1), (2, .putfield 109, 3), (5, .iconst 0, 1), (6, .istore_n 2, 1), (7, .iload_n 2, 1), (8, .bipush 16, 2), (10, .if_icmp .ge 23, 3), (13, .aload_n 0, 1), (14, .getfield 26, 3), (17, .iload_n 2, 1), (18, .iconst 0, 1), (19, .iastore, 1), (20, .aload_n 0, 1), (21, .getfield 29, 3), (24, .iload_n 2, 1), (25, .iconst 0, 1), (26, .iastore, 1), (27, .iinc 2 1, 3), (30, .goto (-23), 3), (33, .iconst 2, 1), (34, .istore_n 2, 1), (35, .iload_n 2, 1), (36, .aload_n 0, 1), (37, .getfield 94, 3), (40, .if_icmp .ge 70, 3), (43, .aload_n 0, 1), (44, .iload_n 1, 1), (45, .iload_n 2, 1), (46, .invokevirtual 112, 3), (49, .istore_n 3, 1), (50, .iload_n 3, 1), (51, .iload_n 2, 1), (52, .iconst 2, 1), (53, .isub, 1), (54, .if_icmp .gt 9, 3), (57, .iconst 1, 1), (58, .iload_n 3, 1), (59, .iadd, 1), (60, .goto 11, 3), (63, .bipush 10, 2), (65, .iload_n 3, 1), (66, .iadd, 1), (67, .iload_n 2, 1), (68, .iconst 1, 1), (69, .isub, 1), (70, .isub, 1), (71, .istore 4, 2), (73, .aload_n 0, 1), (74, .iload 4, 2), (76, .bipush 8, 2), (78, .iload_n 2, 1), (79, .iadd, 1), (80, .invokevirtual 116, 3), (83, .aload_n 0, 1), (84, .getfield 26, 3), (87, .bipush 8, 2), (89, .iload_n 2, 1), (90, .iadd, 1), (91, .iload 4, 2), (93, .iastore, 1), (94, .aload_n 0, 1), (95, .getfield 29, 3), (98, .bipush 8, 2), (100, .iload_n 2, 1), (101, .iadd, 1), (102, .iload_n 2, 1), (103, .iastore, 1), (104, .iinc 2 1, 3), (107, .goto (-72), 3), (110, .aload_n 0, 1), (111, .invokevirtual 120, 3), (114, .return_, 1)], [(109, false, 6, 13), (26, false, 6, 14), (29, false, 6, 15), (94, false, 6, 4)], [])
abbrev mX6_grow : pm_M := (yX6_grow, cX6_grow, 5, none, RX6)
theorem kX6_grow : pm_Ib mX6_grow iX6_grow = true := by decide +kernel
def iX6_gather : pm_I := ([(0, .iconst 0, 1), (1, .istore_n 1, 1), (2, .iload_n 1, 1), (3, .bipush 16, 2), (5, .if_icmp .ge 45, 3), (8, .aload_n 0, 1), (9, .getfield 35, 3), (12, .iload_n 1, 1), (13, .iload_n 1, 1), (14, .bipush 8, 2), (16, .if_icmp .ge 7, 3), (19, .iconst 1, 1), (20, .goto 4, 3), (23, .iconst 0, 1), (24, .bastore, 1), (25, .aload_n 0, 1), (26, .getfield 32, 3), (29, .iload_n 1, 1), (30, .iload_n 1, 1), (31, .bipush 8, 2), (33, .if_icmp .ge 9, 3), (36, .iconst 1, 1), (37, .iload_n 1, 1), (38, .ishl, 1), (39, .goto 4, 3), (42, .iconst 0, 1), (43, .iastore, 1), (44, .iinc 1 1, 3), (47, .goto (-45), 3), (50, .iconst 0, 1), (51, .istore_n 1, 1), (52, .iload_n 1, 1), (53, .bipush 6, 2), (55, .if_icmp .ge 102, 3), (58, .bipush 10, 2), (60, .istore_n 2, 1), (61, .iload_n 2, 1), (62, .bipush 8, 2), (64, .aload_n 0, 1), (65, .getfield 94, 3), (68, .iadd, 1), (69, .if_icmp .ge 82, 3), (72, .aload_n 0, 1), (73, .getfield 35, 3), (76, .iload_n 2, 1), (77, .baload, 1), (78, .ifCond .ne 67, 3), (81, .aload_n 0, 1), (82, .getfield 35, 3), (85, .aload_n 0, 1), (86, .getfield 26, 3), (89, .iload_n 2, 1), (90, .iaload, 1), (91, .baload, 1), (92, .ifCond .eq 53, 3), (95, .aload_n 0, 1), (96, .getfield 35, 3), (99, .aload_n 0, 1), (100, .getfield 29, 3), (103, .iload_n 2, 1), (104, .iaload, 1), (105, .baload, 1), (106, .ifCond .eq 39, 3), (109, .aload_n 0, 1), (110, .getfield 32, 3), (113, .iload_n 2, 1), (114, .aload_n 0, 1), (115, .getfield 32, 3), (118, .aload_n 0, 1), (119, .getfield 26, 3), (122, .iload_n 2, 1), (123, .iaload, 1), (124, .iaload, 1), (125, .aload_n 0, 1), (126, .getfield 32, 3), (129, .aload_n 0, 1), (130, .getfield 29, 3), (133, .iload_n 2, 1), (134, .iaload, 1), (135, .iaload, 1), (136, .ior, 1), (137, .iastore, 1), (138, .aload_n 0, 1), (139, .getfield 35, 3), (142, .iload_n 2, 1), (143, .iconst 1, 1), (144, .bastore, 1), (145, .iinc 2 1, 3), (148, .goto (-87), 3), (151, .iinc 1 1, 3), (154, .goto (-102), 3), (157, .aload_n 0, 1), (158, .iconst 0, 1), (159, .putfield 123, 3), (162, .bipush 10, 2), (164, .istore_n 1, 1), (165, .iload_n 1, 1), (166, .bipush 8, 2), (168, .aload_n 0, 1), (169, .getfield 94, 3), (172, .iadd, 1), (173, .if_icmp .ge 51, 3), (176, .aload_n 0, 1), (177, .getfield 32, 3), (180, .iload_n 1, 1), (181, .iaload, 1), (182, .iconst 1, 1), (183, .aload_n 0, 1), (184, .getfield 94, 3), (187, .ishl, 1), (188, .iconst 2, 1), (189, .isub, 1), (190, .if_icmp .eq 28, 3), (193, .aload_n 0, 1), (194, .getfield 42, 3), (197, .aload_n 0, 1), (198, .getfield 123, 3), (201, .aload_n 0, 1), (202, .getfield 32, 3), (205, .iload_n 1, 1), (206, .iaload, 1), (207, .iastore, 1), (208, .aload_n 0, 1), (209, .dup, 1), (210, .getfield 123, 3), (213, .iconst 1, 1), (214, .iadd, 1), (215, .putfield 123, 3), (218, .iinc 1 1, 3), (221, .goto (-56), 3), (224, .return_, 1)], [(35, false, 6, 17), (32, false, 6, 16), (94, false, 6, 4), (26, false, 6, 14), (29, false, 6, 15), (123, false, 6, 19), (42, false, 6, 20)], [])
abbrev mX6_gather : pm_M := (yX6_gather, cX6_gather, 3, none, RX6)
theorem kX6_gather : pm_Ib mX6_gather iX6_gather = true := by decide +kernel
def iX6_least : pm_I := ([(0, .iload_n 0, 1), (1, .iload_n 1, 1), (2, .if_icmp .ge 7, 3), (5, .iload_n 0, 1), (6, .goto 4, 3), (9, .iload_n 1, 1), (10, .ireturn, 1)], [], [])
abbrev mX6_least : pm_M := (yX6_least, cX6_least, 2, (some .int), RX6)
theorem kX6_least : pm_Ib mX6_least iX6_least = true := by decide +kernel
def iX6_from : pm_I := ([(0, .bipush 99, 2), (2, .istore_n 3, 1), (3, .iconst 0, 1), (4, .istore 4, 2), (6, .iload 4, 2), (8, .iconst 4, 1), (9, .if_icmp .ge 37, 3), (12, .iload_n 3, 1), (13, .aload_n 0, 1), (14, .getfield 39, 3), (17, .iconst 4, 1), (18, .iload_n 2, 1), (19, .imul, 1), (20, .iload 4, 2), (22, .iadd, 1), (23, .iaload, 1), (24, .iload 4, 2), (26, .iload_n 1, 1), (27, .if_icmp .ne 7, 3), (30, .iconst 0, 1), (31, .goto 4, 3), (34, .iconst 1, 1), (35, .iadd, 1), (36, .invokestatic 126, 3), (39, .istore_n 3, 1), (40, .iinc 4 1, 3), (43, .goto (-37), 3), (46, .iload_n 3, 1), (47, .ireturn, 1)], [(39, false, 6, 18)], [])
abbrev mX6_from : pm_M := (yX6_from, cX6_from, 5, (some .int), RX6)
theorem kX6_from : pm_Ib mX6_from iX6_from = true := by decide +kernel
def iX6_needed : pm_I := ([(0, .iconst 0, 1), (1, .istore_n 2, 1), (2, .iload_n 2, 1), (3, .bipush 16, 2), (5, .if_icmp .ge 84, 3), (8, .aload_n 0, 1), (9, .getfield 35, 3), (12, .iload_n 2, 1), (13, .iload_n 2, 1), (14, .aload_n 0, 1), (15, .getfield 94, 3), (18, .if_icmp .ge 7, 3), (21, .iconst 1, 1), (22, .goto 4, 3), (25, .iconst 0, 1), (26, .bastore, 1), (27, .iconst 0, 1), (28, .istore_n 3, 1), (29, .iload_n 3, 1), (30, .iconst 4, 1), (31, .if_icmp .ge 52, 3), (34, .iload_n 2, 1), (35, .aload_n 0, 1), (36, .getfield 94, 3), (39, .if_icmp .ge 44, 3), (42, .aload_n 0, 1), (43, .getfield 39, 3), (46, .iconst 4, 1), (47, .iload_n 2, 1), (48, .imul, 1), (49, .iload_n 3, 1), (50, .iadd, 1), (51, .aload_n 0, 1), (52, .getfield 13, 3), (55, .bipush 16, 2), (57, .iload_n 2, 1), (58, .imul, 1), (59, .iload_n 1, 1), (60, .iadd, 1), (61, .iaload, 1), (62, .iload_n 3, 1), (63, .ishr, 1), (64, .iconst 1, 1), (65, .iand, 1), (66, .iconst 1, 1), (67, .if_icmp .ne 7, 3), (70, .iconst 0, 1), (71, .goto 5, 3), (74, .bipush 99, 2), (76, .iastore, 1), (77, .iinc 3 1, 3), (80, .goto (-51), 3), (83, .iinc 2 1, 3), (86, .goto (-84), 3), (89, .iconst 0, 1), (90, .istore_n 2, 1), (91, .iload_n 2, 1), (92, .bipush 6, 2), (94, .if_icmp .ge 124, 3), (97, .bipush 10, 2), (99, .istore_n 3, 1), (100, .iload_n 3, 1), (101, .bipush 8, 2), (103, .aload_n 0, 1), (104, .getfield 94, 3), (107, .iadd, 1), (108, .if_icmp .ge 104, 3), (111, .aload_n 0, 1), (112, .getfield 35, 3), (115, .iload_n 3, 1), (116, .baload, 1), (117, .ifCond .ne 89, 3), (120, .aload_n 0, 1), (121, .getfield 35, 3), (124, .aload_n 0, 1), (125, .getfield 26, 3), (128, .iload_n 3, 1), (129, .iaload, 1), (130, .baload, 1), (131, .ifCond .eq 75, 3), (134, .aload_n 0, 1), (135, .getfield 35, 3), (138, .aload_n 0, 1), (139, .getfield 29, 3), (142, .iload_n 3, 1), (143, .iaload, 1), (144, .baload, 1), (145, .ifCond .eq 61, 3), (148, .iconst 0, 1), (149, .istore 4, 2), (151, .iload 4, 2), (153, .iconst 4, 1), (154, .if_icmp .ge 45, 3), (157, .aload_n 0, 1), (158, .getfield 39, 3), (161, .iconst 4, 1), (162, .iload_n 3, 1), (163, .imul, 1), (164, .iload 4, 2), (166, .iadd, 1), (167, .aload_n 0, 1), (168, .iload 4, 2), (170, .aload_n 0, 1), (171, .getfield 26, 3), (174, .iload_n 3, 1), (175, .iaload, 1), (176, .invokevirtual 129, 3), (179, .aload_n 0, 1), (180, .iload 4, 2), (182, .aload_n 0, 1), (183, .getfield 29, 3), (186, .iload_n 3, 1), (187, .iaload, 1), (188, .invokevirtual 129, 3), (191, .iadd, 1), (192, .iastore, 1), (193, .iinc 4 1, 3), (196, .goto (-45), 3), (199, .aload_n 0, 1), (200, .getfield 35, 3), (203, .iload_n 3, 1), (204, .iconst 1, 1), (205, .bastore, 1), (206, .iinc 3 1, 3), (209, .goto (-109), 3), (212, .iinc 2 1, 3), (215, .goto (-124), 3), (218, .bipush 99, 2), (220, .istore_n 2, 1), (221, .iconst 0, 1), (222, .istore_n 3, 1), (223, .iload_n 3, 1), (224, .iconst 4, 1), (225, .if_icmp .ge 30, 3), (228, .iload_n 2, 1), (229, .aload_n 0, 1), (230, .getfield 39, 3), (233, .iload_n 3, 1), (234, .iaload, 1), (235, .aload_n 0, 1), (236, .iload_n 3, 1), (237, .aload_n 0, 1), (238, .getfield 109, 3), (241, .invokevirtual 129, 3), (244, .iadd, 1), (245, .invokestatic 126, 3), (248, .istore_n 2, 1), (249, .iinc 3 1, 3), (252, .goto (-29), 3), (255, .iload_n 2, 1), (256, .ireturn, 1)], [(35, false, 6, 17), (94, false, 6, 4), (39, false, 6, 18), (13, false, 6, 6), (26, false, 6, 14), (29, false, 6, 15), (109, false, 6, 13)], [])
abbrev mX6_needed : pm_M := (yX6_needed, cX6_needed, 5, (some .int), RX6)
theorem kX6_needed : pm_Ib mX6_needed iX6_needed = true := by decide +kernel
def iX6_changes : pm_I := ([(0, .aload_n 0, 1), (1, .aload_n 0, 1), (2, .iload_n 1, 1), (3, .invokevirtual 132, 3), (6, .ifCond .eq 11, 3), (9, .aload_n 0, 1), (10, .iload_n 2, 1), (11, .invokevirtual 103, 3), (14, .ifCond .ne 7, 3), (17, .iconst 1, 1), (18, .goto 4, 3), (21, .iconst 0, 1), (22, .putfield 54, 3), (25, .aload_n 0, 1), (26, .getfield 54, 3), (29, .ifCond .eq 5, 3), (32, .iconst 0, 1), (33, .ireturn, 1), (34, .aload_n 0, 1), (35, .iload_n 1, 1), (36, .invokevirtual 135, 3), (39, .aload_n 0, 1), (40, .iload_n 2, 1), (41, .invokevirtual 138, 3), (44, .ireturn, 1)], [(54, false, 6, 26)], [])
abbrev mX6_changes : pm_M := (yX6_changes, cX6_changes, 3, (some .int), RX6)
theorem kX6_changes : pm_Ib mX6_changes iX6_changes = true := by decide +kernel
def iX6_lengthOf : pm_I := ([(0, .aload_n 0, 1), (1, .iload_n 1, 1), (2, .invokevirtual 135, 3), (5, .iconst 0, 1), (6, .istore_n 2, 1), (7, .iconst 0, 1), (8, .istore_n 3, 1), (9, .iload_n 3, 1), (10, .aload_n 0, 1), (11, .getfield 97, 3), (14, .if_icmp .ge 24, 3), (17, .iload_n 2, 1), (18, .aload_n 0, 1), (19, .getfield 17, 3), (22, .iload_n 3, 1), (23, .iaload, 1), (24, .aload_n 0, 1), (25, .iload_n 3, 1), (26, .invokevirtual 138, 3), (29, .imul, 1), (30, .iadd, 1), (31, .istore_n 2, 1), (32, .iinc 3 1, 3), (35, .goto (-26), 3), (38, .iload_n 2, 1), (39, .ireturn, 1)], [(97, false, 6, 5), (17, false, 6, 7)], [])
abbrev mX6_lengthOf : pm_M := (yX6_lengthOf, cX6_lengthOf, 4, (some .int), RX6)
theorem kX6_lengthOf : pm_Ib mX6_lengthOf iX6_lengthOf = true := by decide +kernel
def iX6_length : pm_I := ([(0, .aload_n 0, 1), (1, .aload_n 0, 1), (2, .iload_n 1, 1), (3, .invokevirtual 132, 3), (6, .ifCond .eq 7, 3), (9, .iconst 0, 1), (10, .goto 4, 3), (13, .iconst 1, 1), (14, .putfield 54, 3), (17, .aload_n 0, 1), (18, .getfield 54, 3), (21, .ifCond .ne 11, 3), (24, .aload_n 0, 1), (25, .iload_n 1, 1), (26, .invokevirtual 142, 3), (29, .goto 4, 3), (32, .iconst 0, 1), (33, .ireturn, 1)], [(54, false, 6, 26)], [])
abbrev mX6_length : pm_M := (yX6_length, cX6_length, 2, (some .int), RX6)
theorem kX6_length : pm_Ib mX6_length iX6_length = true := by decide +kernel
def iX6_search : pm_I := ([(0, .aload_n 0, 1), (1, .invokevirtual 106, 3), (4, .istore_n 1, 1), (5, .aload_n 0, 1), (6, .iload_n 1, 1), (7, .ifCond .ne 7, 3), (10, .iconst 1, 1), (11, .goto 4, 3), (14, .iconst 0, 1), (15, .putfield 54, 3), (18, .aload_n 0, 1), (19, .getfield 54, 3), (22, .ifCond .eq 5, 3), (25, .iconst 0, 1), (26, .ireturn, 1), (27, .iconst 0, 1), (28, .istore_n 2, 1), (29, .aload_n 0, 1), (30, .iconst 0, 1), (31, .putfield 100, 3), (34, .iconst 0, 1), (35, .istore_n 3, 1), (36, .iload_n 3, 1), (37, .iload_n 1, 1), (38, .if_icmp .ge 63, 3), (41, .aload_n 0, 1), (42, .iload_n 3, 1), (43, .invokevirtual 142, 3), (46, .istore 4, 2), (48, .aload_n 0, 1), (49, .getfield 100, 3), (52, .ifCond .eq 9, 3), (55, .iload 4, 2), (57, .iload_n 2, 1), (58, .if_icmp .ge 11, 3), (61, .iload 4, 2), (63, .istore_n 2, 1), (64, .aload_n 0, 1), (65, .iconst 0, 1), (66, .putfield 100, 3), (69, .iload 4, 2), (71, .iload_n 2, 1), (72, .if_icmp .ne 23, 3), (75, .aload_n 0, 1), (76, .getfield 23, 3), (79, .aload_n 0, 1), (80, .getfield 100, 3), (83, .iload_n 3, 1), (84, .iastore, 1), (85, .aload_n 0, 1), (86, .dup, 1), (87, .getfield 100, 3), (90, .iconst 1, 1), (91, .iadd, 1), (92, .putfield 100, 3), (95, .iinc 3 1, 3), (98, .goto (-62), 3), (101, .iload_n 2, 1), (102, .ireturn, 1)], [(54, false, 6, 26), (100, false, 6, 11), (23, false, 6, 12)], [])
abbrev mX6_search : pm_M := (yX6_search, cX6_search, 5, (some .int), RX6)
theorem kX6_search : pm_Ib mX6_search iX6_search = true := by decide +kernel
def iX6_found : pm_I := ([(0, .aload_n 0, 1), (1, .iconst 0, 1), (2, .putfield 54, 3), (5, .aload_n 0, 1), (6, .getfield 100, 3), (9, .ireturn, 1)], [(54, false, 6, 26), (100, false, 6, 11)], [])
abbrev mX6_found : pm_M := (yX6_found, cX6_found, 1, (some .int), RX6)
theorem kX6_found : pm_Ib mX6_found iX6_found = true := by decide +kernel
def iX6_best : pm_I := ([(0, .aload_n 0, 1), (1, .iload_n 1, 1), (2, .ifCond .lt 11, 3), (5, .iload_n 1, 1), (6, .aload_n 0, 1), (7, .getfield 100, 3), (10, .if_icmp .lt 7, 3), (13, .iconst 1, 1), (14, .goto 4, 3), (17, .iconst 0, 1), (18, .putfield 54, 3), (21, .aload_n 0, 1), (22, .getfield 54, 3), (25, .ifCond .ne 12, 3), (28, .aload_n 0, 1), (29, .getfield 23, 3), (32, .iload_n 1, 1), (33, .iaload, 1), (34, .goto 4, 3), (37, .iconst 0, 1), (38, .ireturn, 1)], [(100, false, 6, 11), (54, false, 6, 26), (23, false, 6, 12)], [])
abbrev mX6_best : pm_M := (yX6_best, cX6_best, 2, (some .int), RX6)
theorem kX6_best : pm_Ib mX6_best iX6_best = true := by decide +kernel
def iX6_hasSplit : pm_I := ([(0, .iconst 0, 1), (1, .istore_n 2, 1), (2, .iconst 0, 1), (3, .istore_n 3, 1), (4, .iload_n 3, 1), (5, .aload_n 0, 1), (6, .getfield 123, 3), (9, .if_icmp .ge 29, 3), (12, .iload_n 2, 1), (13, .ifCond .ne 13, 3), (16, .aload_n 0, 1), (17, .getfield 42, 3), (20, .iload_n 3, 1), (21, .iaload, 1), (22, .iload_n 1, 1), (23, .if_icmp .ne 7, 3), (26, .iconst 1, 1), (27, .goto 4, 3), (30, .iconst 0, 1), (31, .istore_n 2, 1), (32, .iinc 3 1, 3), (35, .goto (-31), 3), (38, .iload_n 2, 1), (39, .ireturn, 1)], [(123, false, 6, 19), (42, false, 6, 20)], [])
abbrev mX6_hasSplit : pm_M := (yX6_hasSplit, cX6_hasSplit, 4, (some .boolean), RX6)
theorem kX6_hasSplit : pm_Ib mX6_hasSplit iX6_hasSplit = true := by decide +kernel
def iX6_split : pm_I := ([(0, .aload_n 0, 1), (1, .aload_n 0, 1), (2, .iload_n 1, 1), (3, .invokevirtual 132, 3), (6, .ifCond .eq 7, 3), (9, .iconst 0, 1), (10, .goto 4, 3), (13, .iconst 1, 1), (14, .putfield 54, 3), (17, .aload_n 0, 1), (18, .getfield 54, 3), (21, .ifCond .eq 5, 3), (24, .iconst 0, 1), (25, .ireturn, 1), (26, .aload_n 0, 1), (27, .iload_n 1, 1), (28, .invokevirtual 135, 3), (31, .aload_n 0, 1), (32, .iload_n 2, 1), (33, .invokevirtual 145, 3), (36, .ireturn, 1)], [(54, false, 6, 26)], [])
abbrev mX6_split : pm_M := (yX6_split, cX6_split, 3, (some .boolean), RX6)
theorem kX6_split : pm_Ib mX6_split iX6_split = true := by decide +kernel
def iX6_sharing : pm_I := ([(0, .iconst 0, 1), (1, .istore_n 2, 1), (2, .iconst 0, 1), (3, .istore_n 3, 1), (4, .iload_n 3, 1), (5, .aload_n 0, 1), (6, .getfield 100, 3), (9, .if_icmp .ge 35, 3), (12, .aload_n 0, 1), (13, .aload_n 0, 1), (14, .getfield 23, 3), (17, .iload_n 3, 1), (18, .iaload, 1), (19, .invokevirtual 135, 3), (22, .aload_n 0, 1), (23, .iload_n 1, 1), (24, .invokevirtual 145, 3), (27, .ifCond .eq 9, 3), (30, .iload_n 2, 1), (31, .iconst 1, 1), (32, .iadd, 1), (33, .goto 4, 3), (36, .iload_n 2, 1), (37, .istore_n 2, 1), (38, .iinc 3 1, 3), (41, .goto (-37), 3), (44, .iload_n 2, 1), (45, .ireturn, 1)], [(100, false, 6, 11), (23, false, 6, 12)], [])
abbrev mX6_sharing : pm_M := (yX6_sharing, cX6_sharing, 4, (some .int), RX6)
theorem kX6_sharing : pm_Ib mX6_sharing iX6_sharing = true := by decide +kernel
def iX6_share : pm_I := ([(0, .aload_n 0, 1), (1, .aload_n 0, 1), (2, .getfield 100, 3), (5, .ifCond .ne 7, 3), (8, .iconst 1, 1), (9, .goto 4, 3), (12, .iconst 0, 1), (13, .putfield 54, 3), (16, .aload_n 0, 1), (17, .getfield 54, 3), (20, .ifCond .ne 18, 3), (23, .aload_n 0, 1), (24, .iload_n 1, 1), (25, .invokevirtual 148, 3), (28, .i2f, 1), (29, .aload_n 0, 1), (30, .getfield 100, 3), (33, .i2f, 1), (34, .fdiv, 1), (35, .goto 4, 3), (38, .fconst 0, 1), (39, .freturn, 1)], [(100, false, 6, 11), (54, false, 6, 26)], [])
abbrev mX6_share : pm_M := (yX6_share, cX6_share, 2, (some .float), RX6)
theorem kX6_share : pm_Ib mX6_share iX6_share = true := by decide +kernel
def iX6_distance : pm_I := ([(0, .aload_n 0, 1), (1, .aload_n 0, 1), (2, .iload_n 1, 1), (3, .invokevirtual 132, 3), (6, .ifCond .eq 11, 3), (9, .aload_n 0, 1), (10, .iload_n 2, 1), (11, .invokevirtual 132, 3), (14, .ifCond .ne 7, 3), (17, .iconst 1, 1), (18, .goto 4, 3), (21, .iconst 0, 1), (22, .putfield 54, 3), (25, .aload_n 0, 1), (26, .getfield 54, 3), (29, .ifCond .eq 5, 3), (32, .iconst 0, 1), (33, .ireturn, 1), (34, .aload_n 0, 1), (35, .iload_n 2, 1), (36, .invokevirtual 135, 3), (39, .aload_n 0, 1), (40, .aload_n 0, 1), (41, .getfield 123, 3), (44, .putfield 151, 3), (47, .iconst 0, 1), (48, .istore_n 3, 1), (49, .iload_n 3, 1), (50, .aload_n 0, 1), (51, .getfield 123, 3), (54, .if_icmp .ge 21, 3), (57, .aload_n 0, 1), (58, .getfield 45, 3), (61, .iload_n 3, 1), (62, .aload_n 0, 1), (63, .getfield 42, 3), (66, .iload_n 3, 1), (67, .iaload, 1), (68, .iastore, 1), (69, .iinc 3 1, 3), (72, .goto (-23), 3), (75, .aload_n 0, 1), (76, .iload_n 1, 1), (77, .invokevirtual 135, 3), (80, .iconst 0, 1), (81, .istore_n 3, 1), (82, .iconst 0, 1), (83, .istore 4, 2), (85, .iload 4, 2), (87, .aload_n 0, 1), (88, .getfield 151, 3), (91, .if_icmp .ge 31, 3), (94, .aload_n 0, 1), (95, .aload_n 0, 1), (96, .getfield 45, 3), (99, .iload 4, 2), (101, .iaload, 1), (102, .invokevirtual 145, 3), (105, .ifCond .eq 9, 3), (108, .iload_n 3, 1), (109, .iconst 1, 1), (110, .iadd, 1), (111, .goto 4, 3), (114, .iload_n 3, 1), (115, .istore_n 3, 1), (116, .iinc 4 1, 3), (119, .goto (-34), 3), (122, .aload_n 0, 1), (123, .getfield 123, 3), (126, .aload_n 0, 1), (127, .getfield 151, 3), (130, .iadd, 1), (131, .iconst 2, 1), (132, .iload_n 3, 1), (133, .imul, 1), (134, .isub, 1), (135, .ireturn, 1)], [(54, false, 6, 26), (123, false, 6, 19), (151, false, 6, 21), (45, false, 6, 22), (42, false, 6, 20)], [])
abbrev mX6_distance : pm_M := (yX6_distance, cX6_distance, 5, (some .int), RX6)
theorem kX6_distance : pm_Ib mX6_distance iX6_distance = true := by decide +kernel
def iX6_ones : pm_I := ([(0, .iconst 0, 1), (1, .istore_n 1, 1), (2, .iconst 0, 1), (3, .istore_n 2, 1), (4, .iload_n 2, 1), (5, .bipush 8, 2), (7, .if_icmp .ge 17, 3), (10, .iload_n 1, 1), (11, .iload_n 0, 1), (12, .iload_n 2, 1), (13, .ishr, 1), (14, .iconst 1, 1), (15, .iand, 1), (16, .iadd, 1), (17, .istore_n 1, 1), (18, .iinc 2 1, 3), (21, .goto (-17), 3), (24, .iload_n 1, 1), (25, .ireturn, 1)], [], [])
abbrev mX6_ones : pm_M := (yX6_ones, cX6_ones, 3, (some .int), RX6)
theorem kX6_ones : pm_Ib mX6_ones iX6_ones = true := by decide +kernel
def iX6_leastOf : pm_I := ([(0, .iconst 4, 1), (1, .istore_n 2, 1), (2, .iconst 1, 1), (3, .istore_n 3, 1), (4, .iload_n 3, 1), (5, .bipush 16, 2), (7, .if_icmp .ge 77, 3), (10, .iconst 1, 1), (11, .istore 4, 2), (13, .iconst 0, 1), (14, .istore 5, 2), (16, .iload 5, 2), (18, .aload_n 0, 1), (19, .getfield 94, 3), (22, .if_icmp .ge 38, 3), (25, .iload 4, 2), (27, .ifCond .eq 24, 3), (30, .aload_n 0, 1), (31, .getfield 13, 3), (34, .bipush 16, 2), (36, .iload 5, 2), (38, .imul, 1), (39, .iload_n 1, 1), (40, .iadd, 1), (41, .iaload, 1), (42, .iload_n 3, 1), (43, .iand, 1), (44, .ifCond .eq 7, 3), (47, .iconst 1, 1), (48, .goto 4, 3), (51, .iconst 0, 1), (52, .istore 4, 2), (54, .iinc 5 1, 3), (57, .goto (-41), 3), (60, .iload 4, 2), (62, .ifCond .eq 14, 3), (65, .iload_n 2, 1), (66, .iload_n 3, 1), (67, .invokestatic 154, 3), (70, .invokestatic 126, 3), (73, .goto 4, 3), (76, .iload_n 2, 1), (77, .istore_n 2, 1), (78, .iinc 3 1, 3), (81, .goto (-77), 3), (84, .iload_n 2, 1), (85, .iconst 1, 1), (86, .isub, 1), (87, .ireturn, 1)], [(94, false, 6, 4), (13, false, 6, 6)], [])
abbrev mX6_leastOf : pm_M := (yX6_leastOf, cX6_leastOf, 6, (some .int), RX6)
theorem kX6_leastOf : pm_Ib mX6_leastOf iX6_leastOf = true := by decide +kernel
def iX6_mostOf : pm_I := ([(0, .iconst 0, 1), (1, .istore_n 2, 1), (2, .iconst 0, 1), (3, .istore_n 3, 1), (4, .iload_n 3, 1), (5, .iconst 4, 1), (6, .if_icmp .ge 64, 3), (9, .iconst 0, 1), (10, .istore 4, 2), (12, .iconst 0, 1), (13, .istore 5, 2), (15, .iload 5, 2), (17, .aload_n 0, 1), (18, .getfield 94, 3), (21, .if_icmp .ge 30, 3), (24, .iload 4, 2), (26, .aload_n 0, 1), (27, .getfield 13, 3), (30, .bipush 16, 2), (32, .iload 5, 2), (34, .imul, 1), (35, .iload_n 1, 1), (36, .iadd, 1), (37, .iaload, 1), (38, .iload_n 3, 1), (39, .ishr, 1), (40, .iconst 1, 1), (41, .iand, 1), (42, .iadd, 1), (43, .istore 4, 2), (45, .iinc 5 1, 3), (48, .goto (-33), 3), (51, .iload 4, 2), (53, .iload_n 2, 1), (54, .if_icmp .le 8, 3), (57, .iload 4, 2), (59, .goto 4, 3), (62, .iload_n 2, 1), (63, .istore_n 2, 1), (64, .iinc 3 1, 3), (67, .goto (-63), 3), (70, .aload_n 0, 1), (71, .getfield 94, 3), (74, .iload_n 2, 1), (75, .isub, 1), (76, .ireturn, 1)], [(94, false, 6, 4), (13, false, 6, 6)], [])
abbrev mX6_mostOf : pm_M := (yX6_mostOf, cX6_mostOf, 6, (some .int), RX6)
theorem kX6_mostOf : pm_Ib mX6_mostOf iX6_mostOf = true := by decide +kernel
def iX6_sum : pm_I := ([(0, .iconst 0, 1), (1, .istore_n 2, 1), (2, .iconst 0, 1), (3, .istore_n 3, 1), (4, .iload_n 3, 1), (5, .aload_n 0, 1), (6, .getfield 97, 3), (9, .if_icmp .ge 36, 3), (12, .iload_n 2, 1), (13, .aload_n 0, 1), (14, .getfield 17, 3), (17, .iload_n 3, 1), (18, .iaload, 1), (19, .iload_n 1, 1), (20, .ifCond .eq 11, 3), (23, .aload_n 0, 1), (24, .iload_n 3, 1), (25, .invokevirtual 157, 3), (28, .goto 8, 3), (31, .aload_n 0, 1), (32, .iload_n 3, 1), (33, .invokevirtual 160, 3), (36, .imul, 1), (37, .iadd, 1), (38, .istore_n 2, 1), (39, .iinc 3 1, 3), (42, .goto (-38), 3), (45, .iload_n 2, 1), (46, .ireturn, 1)], [(97, false, 6, 5), (17, false, 6, 7)], [])
abbrev mX6_sum : pm_M := (yX6_sum, cX6_sum, 4, (some .int), RX6)
theorem kX6_sum : pm_Ib mX6_sum iX6_sum = true := by decide +kernel
def iX6_consistency : pm_I := ([(0, .aload_n 0, 1), (1, .aload_n 0, 1), (2, .iload_n 1, 1), (3, .invokevirtual 132, 3), (6, .ifCond .eq 7, 3), (9, .iconst 0, 1), (10, .goto 4, 3), (13, .iconst 1, 1), (14, .putfield 54, 3), (17, .aload_n 0, 1), (18, .getfield 54, 3), (21, .ifCond .eq 5, 3), (24, .fconst 0, 1), (25, .freturn, 1), (26, .aload_n 0, 1), (27, .iload_n 1, 1), (28, .invokevirtual 142, 3), (31, .istore_n 2, 1), (32, .iload_n 2, 1), (33, .ifCond .ne 7, 3), (36, .fconst 1, 1), (37, .goto 12, 3), (40, .aload_n 0, 1), (41, .iconst 0, 1), (42, .invokevirtual 163, 3), (45, .i2f, 1), (46, .iload_n 2, 1), (47, .i2f, 1), (48, .fdiv, 1), (49, .freturn, 1)], [(54, false, 6, 26)], [])
abbrev mX6_consistency : pm_M := (yX6_consistency, cX6_consistency, 3, (some .float), RX6)
theorem kX6_consistency : pm_Ib mX6_consistency iX6_consistency = true := by decide +kernel
def iX6_retention : pm_I := ([(0, .aload_n 0, 1), (1, .aload_n 0, 1), (2, .iload_n 1, 1), (3, .invokevirtual 132, 3), (6, .ifCond .eq 7, 3), (9, .iconst 0, 1), (10, .goto 4, 3), (13, .iconst 1, 1), (14, .putfield 54, 3), (17, .aload_n 0, 1), (18, .getfield 54, 3), (21, .ifCond .eq 5, 3), (24, .fconst 0, 1), (25, .freturn, 1), (26, .aload_n 0, 1), (27, .iconst 1, 1), (28, .invokevirtual 163, 3), (31, .istore_n 2, 1), (32, .aload_n 0, 1), (33, .iconst 0, 1), (34, .invokevirtual 163, 3), (37, .istore_n 3, 1), (38, .iload_n 2, 1), (39, .iload_n 3, 1), (40, .if_icmp .ne 7, 3), (43, .fconst 1, 1), (44, .goto 16, 3), (47, .iload_n 2, 1), (48, .aload_n 0, 1), (49, .iload_n 1, 1), (50, .invokevirtual 142, 3), (53, .isub, 1), (54, .i2f, 1), (55, .iload_n 2, 1), (56, .iload_n 3, 1), (57, .isub, 1), (58, .i2f, 1), (59, .fdiv, 1), (60, .freturn, 1)], [(54, false, 6, 26)], [])
abbrev mX6_retention : pm_M := (yX6_retention, cX6_retention, 4, (some .float), RX6)
theorem kX6_retention : pm_Ib mX6_retention iX6_retention = true := by decide +kernel
def iX6_put : pm_I := ([(0, .aload_n 0, 1), (1, .getfield 48, 3), (4, .aload_n 0, 1), (5, .getfield 167, 3), (8, .iload_n 1, 1), (9, .i2c, 1), (10, .castore, 1), (11, .aload_n 0, 1), (12, .dup, 1), (13, .getfield 167, 3), (16, .iconst 1, 1), (17, .iadd, 1), (18, .putfield 167, 3), (21, .return_, 1)], [(48, false, 6, 24), (167, false, 6, 23)], [])
abbrev mX6_put : pm_M := (yX6_put, cX6_put, 2, none, RX6)
theorem kX6_put : pm_Ib mX6_put iX6_put = true := by decide +kernel
def iX6_part : pm_I := ([(0, .iconst 1, 1), (1, .iload_n 2, 1), (2, .ishl, 1), (3, .istore_n 3, 1), (4, .iconst 0, 1), (5, .istore 4, 2), (7, .iload 4, 2), (9, .aload_n 0, 1), (10, .getfield 123, 3), (13, .if_icmp .ge 58, 3), (16, .aload_n 0, 1), (17, .getfield 42, 3), (20, .iload 4, 2), (22, .iaload, 1), (23, .istore 5, 2), (25, .iload 5, 2), (27, .iload_n 1, 1), (28, .iconst (-1), 1), (29, .ixor, 1), (30, .iand, 1), (31, .ifCond .ne 34, 3), (34, .iload 5, 2), (36, .iload_n 1, 1), (37, .if_icmp .eq 28, 3), (40, .iload 5, 2), (42, .iload_n 2, 1), (43, .ishr, 1), (44, .iconst 1, 1), (45, .iand, 1), (46, .iconst 1, 1), (47, .if_icmp .ne 18, 3), (50, .iload 5, 2), (52, .invokestatic 154, 3), (55, .iload_n 3, 1), (56, .invokestatic 154, 3), (59, .if_icmp .le 6, 3), (62, .iload 5, 2), (64, .istore_n 3, 1), (65, .iinc 4 1, 3), (68, .goto (-61), 3), (71, .iload_n 3, 1), (72, .ireturn, 1)], [(123, false, 6, 19), (42, false, 6, 20)], [])
abbrev mX6_part : pm_M := (yX6_part, cX6_part, 6, (some .int), RX6)
theorem kX6_part : pm_Ib mX6_part iX6_part = true := by decide +kernel
def iX6_spread : pm_I := ([(0, .iload_n 2, 1), (1, .istore_n 3, 1), (2, .bipush 6, 2), (4, .istore 4, 2), (6, .iload 4, 2), (8, .ifCond .lt 70, 3), (11, .iload_n 1, 1), (12, .iload 4, 2), (14, .ishr, 1), (15, .iconst 1, 1), (16, .iand, 1), (17, .iconst 1, 1), (18, .if_icmp .ne 13, 3), (21, .aload_n 0, 1), (22, .iload_n 1, 1), (23, .iload 4, 2), (25, .invokevirtual 170, 3), (28, .goto 4, 3), (31, .iconst 0, 1), (32, .istore 5, 2), (34, .iload 5, 2), (36, .ifCond .eq 36, 3), (39, .iload 5, 2), (41, .iconst 1, 1), (42, .iload 4, 2), (44, .ishl, 1), (45, .iconst 1, 1), (46, .isub, 1), (47, .iand, 1), (48, .ifCond .ne 24, 3), (51, .aload_n 0, 1), (52, .getfield 51, 3), (55, .iload_n 3, 1), (56, .iload 5, 2), (58, .iastore, 1), (59, .aload_n 0, 1), (60, .getfield 51, 3), (63, .iload_n 3, 1), (64, .iconst 1, 1), (65, .iadd, 1), (66, .bipush (-2), 2), (68, .iastore, 1), (69, .iinc 3 2, 3), (72, .iinc 4 (-1), 3), (75, .goto (-69), 3), (78, .iload_n 3, 1), (79, .iconst 1, 1), (80, .isub, 1), (81, .ireturn, 1)], [(51, false, 6, 25)], [])
abbrev mX6_spread : pm_M := (yX6_spread, cX6_spread, 6, (some .int), RX6)
theorem kX6_spread : pm_Ib mX6_spread iX6_spread = true := by decide +kernel
def iX6_writeSplits : pm_I := ([(0, .aload_n 0, 1), (1, .iconst 0, 1), (2, .putfield 167, 3), (5, .aload_n 0, 1), (6, .bipush 40, 2), (8, .invokevirtual 173, 3), (11, .aload_n 0, 1), (12, .bipush 97, 2), (14, .invokevirtual 173, 3), (17, .aload_n 0, 1), (18, .bipush 44, 2), (20, .invokevirtual 173, 3), (23, .aload_n 0, 1), (24, .iconst 1, 1), (25, .aload_n 0, 1), (26, .getfield 94, 3), (29, .ishl, 1), (30, .iconst 2, 1), (31, .isub, 1), (32, .iconst 0, 1), (33, .invokevirtual 176, 3), (36, .istore_n 1, 1), (37, .iload_n 1, 1), (38, .ifCond .le 102, 3), (41, .iinc 1 (-1), 3), (44, .aload_n 0, 1), (45, .getfield 51, 3), (48, .iload_n 1, 1), (49, .iaload, 1), (50, .istore_n 2, 1), (51, .iload_n 2, 1), (52, .iconst (-1), 1), (53, .if_icmp .ne 12, 3), (56, .aload_n 0, 1), (57, .bipush 41, 2), (59, .invokevirtual 173, 3), (62, .goto 75, 3), (65, .iload_n 2, 1), (66, .bipush (-2), 2), (68, .if_icmp .ne 12, 3), (71, .aload_n 0, 1), (72, .bipush 44, 2), (74, .invokevirtual 173, 3), (77, .goto 60, 3), (80, .iload_n 2, 1), (81, .invokestatic 154, 3), (84, .iconst 1, 1), (85, .if_icmp .ne 30, 3), (88, .iconst 0, 1), (89, .istore_n 3, 1), (90, .iload_n 2, 1), (91, .iload_n 3, 1), (92, .ishr, 1), (93, .iconst 1, 1), (94, .iand, 1), (95, .ifCond .ne 9, 3), (98, .iinc 3 1, 3), (101, .goto (-11), 3), (104, .aload_n 0, 1), (105, .bipush 97, 2), (107, .iload_n 3, 1), (108, .iadd, 1), (109, .invokevirtual 173, 3), (112, .goto 25, 3), (115, .aload_n 0, 1), (116, .bipush 40, 2), (118, .invokevirtual 173, 3), (121, .aload_n 0, 1), (122, .getfield 51, 3), (125, .iload_n 1, 1), (126, .iconst (-1), 1), (127, .iastore, 1), (128, .aload_n 0, 1), (129, .iload_n 2, 1), (130, .iload_n 1, 1), (131, .iconst 1, 1), (132, .iadd, 1), (133, .invokevirtual 176, 3), (136, .istore_n 1, 1), (137, .goto (-100), 3), (140, .aload_n 0, 1), (141, .bipush 41, 2), (143, .invokevirtual 173, 3), (146, .aload_n 0, 1), (147, .bipush 59, 2), (149, .invokevirtual 173, 3), (152, .aload_n 0, 1), (153, .getfield 167, 3), (156, .ireturn, 1)], [(167, false, 6, 23), (94, false, 6, 4), (51, false, 6, 25)], [])
abbrev mX6_writeSplits : pm_M := (yX6_writeSplits, cX6_writeSplits, 4, (some .int), RX6)
theorem kX6_writeSplits : pm_Ib mX6_writeSplits iX6_writeSplits = true := by decide +kernel
def iX6_write : pm_I := ([(0, .aload_n 0, 1), (1, .aload_n 0, 1), (2, .iload_n 1, 1), (3, .invokevirtual 132, 3), (6, .ifCond .eq 7, 3), (9, .iconst 0, 1), (10, .goto 4, 3), (13, .iconst 1, 1), (14, .putfield 54, 3), (17, .aload_n 0, 1), (18, .getfield 54, 3), (21, .ifCond .eq 5, 3), (24, .iconst 0, 1), (25, .ireturn, 1), (26, .aload_n 0, 1), (27, .iload_n 1, 1), (28, .invokevirtual 135, 3), (31, .aload_n 0, 1), (32, .invokevirtual 179, 3), (35, .ireturn, 1)], [(54, false, 6, 26)], [])
abbrev mX6_write : pm_M := (yX6_write, cX6_write, 2, (some .int), RX6)
theorem kX6_write : pm_Ib mX6_write iX6_write = true := by decide +kernel
def iX6_common : pm_I := ([(0, .aload_n 0, 1), (1, .aload_n 0, 1), (2, .getfield 100, 3), (5, .ifCond .ne 7, 3), (8, .iconst 1, 1), (9, .goto 21, 3), (12, .fload_n 1, 1), (13, .ldc 182, 2), (15, .fcmp .l, 1), (16, .ifCond .lt 13, 3), (19, .fload_n 1, 1), (20, .fconst 1, 1), (21, .fcmp .g, 1), (22, .ifCond .gt 7, 3), (25, .iconst 0, 1), (26, .goto 4, 3), (29, .iconst 2, 1), (30, .putfield 54, 3), (33, .aload_n 0, 1), (34, .getfield 54, 3), (37, .ifCond .eq 5, 3), (40, .iconst 0, 1), (41, .ireturn, 1), (42, .aload_n 0, 1), (43, .iconst 0, 1), (44, .putfield 151, 3), (47, .iconst 2, 1), (48, .istore_n 2, 1), (49, .iload_n 2, 1), (50, .sipush 128, 3), (53, .if_icmp .ge 87, 3), (56, .iload_n 2, 1), (57, .invokestatic 154, 3), (60, .iconst 1, 1), (61, .if_icmp .le 26, 3), (64, .iload_n 2, 1), (65, .iconst 1, 1), (66, .aload_n 0, 1), (67, .getfield 94, 3), (70, .ishl, 1), (71, .iconst 2, 1), (72, .isub, 1), (73, .iconst (-1), 1), (74, .ixor, 1), (75, .iand, 1), (76, .ifCond .ne 11, 3), (79, .aload_n 0, 1), (80, .iload_n 2, 1), (81, .invokevirtual 148, 3), (84, .goto 4, 3), (87, .iconst 0, 1), (88, .istore_n 3, 1), (89, .iload_n 3, 1), (90, .aload_n 0, 1), (91, .getfield 100, 3), (94, .if_icmp .eq 20, 3), (97, .iload_n 3, 1), (98, .ifCond .le 36, 3), (101, .iload_n 3, 1), (102, .i2f, 1), (103, .aload_n 0, 1), (104, .getfield 100, 3), (107, .i2f, 1), (108, .fdiv, 1), (109, .fload_n 1, 1), (110, .fcmp .l, 1), (111, .ifCond .le 23, 3), (114, .aload_n 0, 1), (115, .getfield 45, 3), (118, .aload_n 0, 1), (119, .getfield 151, 3), (122, .iload_n 2, 1), (123, .iastore, 1), (124, .aload_n 0, 1), (125, .dup, 1), (126, .getfield 151, 3), (129, .iconst 1, 1), (130, .iadd, 1), (131, .putfield 151, 3), (134, .iinc 2 2, 3), (137, .goto (-88), 3), (140, .aload_n 0, 1), (141, .aload_n 0, 1), (142, .getfield 151, 3), (145, .putfield 123, 3), (148, .iconst 0, 1), (149, .istore_n 2, 1), (150, .iload_n 2, 1), (151, .aload_n 0, 1), (152, .getfield 123, 3), (155, .if_icmp .ge 21, 3), (158, .aload_n 0, 1), (159, .getfield 42, 3), (162, .iload_n 2, 1), (163, .aload_n 0, 1), (164, .getfield 45, 3), (167, .iload_n 2, 1), (168, .iaload, 1), (169, .iastore, 1), (170, .iinc 2 1, 3), (173, .goto (-23), 3), (176, .aload_n 0, 1), (177, .invokevirtual 179, 3), (180, .ireturn, 1)], [(100, false, 6, 11), (54, false, 6, 26), (151, false, 6, 21), (94, false, 6, 4), (45, false, 6, 22), (123, false, 6, 19), (42, false, 6, 20)], [(182, .float 1056964608)])
abbrev mX6_common : pm_M := (yX6_common, cX6_common, 4, (some .int), RX6)
theorem kX6_common : pm_Ib mX6_common iX6_common = true := by decide +kernel
def iX6_written : pm_I := ([(0, .aload_n 0, 1), (1, .iconst 0, 1), (2, .putfield 54, 3), (5, .iload_n 1, 1), (6, .ifCond .lt 11, 3), (9, .iload_n 1, 1), (10, .aload_n 0, 1), (11, .getfield 167, 3), (14, .if_icmp .lt 7, 3), (17, .iconst 0, 1), (18, .goto 9, 3), (21, .aload_n 0, 1), (22, .getfield 48, 3), (25, .iload_n 1, 1), (26, .caload, 1), (27, .ireturn, 1)], [(54, false, 6, 26), (167, false, 6, 23), (48, false, 6, 24)], [])
abbrev mX6_written : pm_M := (yX6_written, cX6_written, 2, (some .char), RX6)
theorem kX6_written : pm_Ib mX6_written iX6_written = true := by decide +kernel
theorem gRX6_67 : ∀ x ∈ wsV RX6 67 RX6 yX6_here [Cond.code yX6_here cX6_here 1 (some .int)], x ∈ pm_tb := by decide +kernel
theorem vX6_here : yX6_here.cls = RX6 ∧ yX6_here.cls ≠ "java/lang/invoke/MethodHandle" ∧ yX6_here.cls ≠ "java/lang/invoke/VarHandle" ∧ (parseMethodDescriptor yX6_here.desc).map (fun d => d.parameters.length) = some 0 := by decide +kernel
theorem gRX6_71 : ∀ x ∈ wsV RX6 71 RX6 yX6_wrong [Cond.code yX6_wrong cX6_wrong 1 none], x ∈ pm_tb := by decide +kernel
theorem vX6_wrong : yX6_wrong.cls = RX6 ∧ yX6_wrong.cls ≠ "java/lang/invoke/MethodHandle" ∧ yX6_wrong.cls ≠ "java/lang/invoke/VarHandle" ∧ (parseMethodDescriptor yX6_wrong.desc).map (fun d => d.parameters.length) = some 0 := by decide +kernel
theorem gRX6_74 : ∀ x ∈ [Cond.methodLink RX6 74 yX6_isState, Cond.static yX6_isState, Cond.initialized yX6_isState.cls, Cond.code yX6_isState cX6_isState 1 (some .boolean)], x ∈ pm_tb := by decide +kernel
theorem vX6_isState : yX6_isState.cls ≠ "java/lang/invoke/MethodHandle" ∧ yX6_isState.cls ≠ "java/lang/invoke/VarHandle" ∧ (parseMethodDescriptor yX6_isState.desc).map (fun d => d.parameters.length) = some 1 := by decide +kernel
theorem gRX6_78 : ∀ x ∈ wsV RX6 78 RX6 yX6_must [Cond.code yX6_must cX6_must 2 none], x ∈ pm_tb := by decide +kernel
theorem vX6_must : yX6_must.cls = RX6 ∧ yX6_must.cls ≠ "java/lang/invoke/MethodHandle" ∧ yX6_must.cls ≠ "java/lang/invoke/VarHandle" ∧ (parseMethodDescriptor yX6_must.desc).map (fun d => d.parameters.length) = some 1 := by decide +kernel
theorem gRX6_88 : ∀ x ∈ wsV RX6 88 RX6 yX6_entry [Cond.code yX6_entry cX6_entry 4 (some .int)], x ∈ pm_tb := by decide +kernel
theorem vX6_entry : yX6_entry.cls = RX6 ∧ yX6_entry.cls ≠ "java/lang/invoke/MethodHandle" ∧ yX6_entry.cls ≠ "java/lang/invoke/VarHandle" ∧ (parseMethodDescriptor yX6_entry.desc).map (fun d => d.parameters.length) = some 0 := by decide +kernel
theorem gRX6_91 : ∀ x ∈ wsV RX6 91 RX6 yX6_row [Cond.code yX6_row cX6_row 2 none], x ∈ pm_tb := by decide +kernel
theorem vX6_row : yX6_row.cls = RX6 ∧ yX6_row.cls ≠ "java/lang/invoke/MethodHandle" ∧ yX6_row.cls ≠ "java/lang/invoke/VarHandle" ∧ (parseMethodDescriptor yX6_row.desc).map (fun d => d.parameters.length) = some 0 := by decide +kernel
theorem gRX6_103 : ∀ x ∈ wsV RX6 103 RX6 yX6_isCharacter [Cond.code yX6_isCharacter cX6_isCharacter 2 (some .boolean)], x ∈ pm_tb := by decide +kernel
theorem vX6_isCharacter : yX6_isCharacter.cls = RX6 ∧ yX6_isCharacter.cls ≠ "java/lang/invoke/MethodHandle" ∧ yX6_isCharacter.cls ≠ "java/lang/invoke/VarHandle" ∧ (parseMethodDescriptor yX6_isCharacter.desc).map (fun d => d.parameters.length) = some 1 := by decide +kernel
theorem gRX6_106 : ∀ x ∈ wsV RX6 106 RX6 yX6_many [Cond.code yX6_many cX6_many 3 (some .int)], x ∈ pm_tb := by decide +kernel
theorem vX6_many : yX6_many.cls = RX6 ∧ yX6_many.cls ≠ "java/lang/invoke/MethodHandle" ∧ yX6_many.cls ≠ "java/lang/invoke/VarHandle" ∧ (parseMethodDescriptor yX6_many.desc).map (fun d => d.parameters.length) = some 0 := by decide +kernel
theorem gRX6_112 : ∀ x ∈ wsV RX6 112 RX6 yX6_choice [Cond.code yX6_choice cX6_choice 5 (some .int)], x ∈ pm_tb := by decide +kernel
theorem vX6_choice : yX6_choice.cls = RX6 ∧ yX6_choice.cls ≠ "java/lang/invoke/MethodHandle" ∧ yX6_choice.cls ≠ "java/lang/invoke/VarHandle" ∧ (parseMethodDescriptor yX6_choice.desc).map (fun d => d.parameters.length) = some 2 := by decide +kernel
theorem gRX6_116 : ∀ x ∈ wsV RX6 116 RX6 yX6_replace [Cond.code yX6_replace cX6_replace 4 none], x ∈ pm_tb := by decide +kernel
theorem vX6_replace : yX6_replace.cls = RX6 ∧ yX6_replace.cls ≠ "java/lang/invoke/MethodHandle" ∧ yX6_replace.cls ≠ "java/lang/invoke/VarHandle" ∧ (parseMethodDescriptor yX6_replace.desc).map (fun d => d.parameters.length) = some 2 := by decide +kernel
theorem gRX6_120 : ∀ x ∈ wsV RX6 120 RX6 yX6_gather [Cond.code yX6_gather cX6_gather 3 none], x ∈ pm_tb := by decide +kernel
theorem vX6_gather : yX6_gather.cls = RX6 ∧ yX6_gather.cls ≠ "java/lang/invoke/MethodHandle" ∧ yX6_gather.cls ≠ "java/lang/invoke/VarHandle" ∧ (parseMethodDescriptor yX6_gather.desc).map (fun d => d.parameters.length) = some 0 := by decide +kernel
theorem gRX6_126 : ∀ x ∈ [Cond.methodLink RX6 126 yX6_least, Cond.static yX6_least, Cond.initialized yX6_least.cls, Cond.code yX6_least cX6_least 2 (some .int)], x ∈ pm_tb := by decide +kernel
theorem vX6_least : yX6_least.cls ≠ "java/lang/invoke/MethodHandle" ∧ yX6_least.cls ≠ "java/lang/invoke/VarHandle" ∧ (parseMethodDescriptor yX6_least.desc).map (fun d => d.parameters.length) = some 2 := by decide +kernel
theorem gRX6_129 : ∀ x ∈ wsV RX6 129 RX6 yX6_from [Cond.code yX6_from cX6_from 5 (some .int)], x ∈ pm_tb := by decide +kernel
theorem vX6_from : yX6_from.cls = RX6 ∧ yX6_from.cls ≠ "java/lang/invoke/MethodHandle" ∧ yX6_from.cls ≠ "java/lang/invoke/VarHandle" ∧ (parseMethodDescriptor yX6_from.desc).map (fun d => d.parameters.length) = some 2 := by decide +kernel
theorem gRX6_132 : ∀ x ∈ wsV RX6 132 RX6 yX6_isTree [Cond.code yX6_isTree cX6_isTree 2 (some .boolean)], x ∈ pm_tb := by decide +kernel
theorem vX6_isTree : yX6_isTree.cls = RX6 ∧ yX6_isTree.cls ≠ "java/lang/invoke/MethodHandle" ∧ yX6_isTree.cls ≠ "java/lang/invoke/VarHandle" ∧ (parseMethodDescriptor yX6_isTree.desc).map (fun d => d.parameters.length) = some 1 := by decide +kernel
theorem gRX6_135 : ∀ x ∈ wsV RX6 135 RX6 yX6_grow [Cond.code yX6_grow cX6_grow 5 none], x ∈ pm_tb := by decide +kernel
theorem vX6_grow : yX6_grow.cls = RX6 ∧ yX6_grow.cls ≠ "java/lang/invoke/MethodHandle" ∧ yX6_grow.cls ≠ "java/lang/invoke/VarHandle" ∧ (parseMethodDescriptor yX6_grow.desc).map (fun d => d.parameters.length) = some 1 := by decide +kernel
theorem gRX6_138 : ∀ x ∈ wsV RX6 138 RX6 yX6_needed [Cond.code yX6_needed cX6_needed 5 (some .int)], x ∈ pm_tb := by decide +kernel
theorem vX6_needed : yX6_needed.cls = RX6 ∧ yX6_needed.cls ≠ "java/lang/invoke/MethodHandle" ∧ yX6_needed.cls ≠ "java/lang/invoke/VarHandle" ∧ (parseMethodDescriptor yX6_needed.desc).map (fun d => d.parameters.length) = some 1 := by decide +kernel
theorem gRX6_142 : ∀ x ∈ wsV RX6 142 RX6 yX6_lengthOf [Cond.code yX6_lengthOf cX6_lengthOf 4 (some .int)], x ∈ pm_tb := by decide +kernel
theorem vX6_lengthOf : yX6_lengthOf.cls = RX6 ∧ yX6_lengthOf.cls ≠ "java/lang/invoke/MethodHandle" ∧ yX6_lengthOf.cls ≠ "java/lang/invoke/VarHandle" ∧ (parseMethodDescriptor yX6_lengthOf.desc).map (fun d => d.parameters.length) = some 1 := by decide +kernel
theorem gRX6_145 : ∀ x ∈ wsV RX6 145 RX6 yX6_hasSplit [Cond.code yX6_hasSplit cX6_hasSplit 4 (some .boolean)], x ∈ pm_tb := by decide +kernel
theorem vX6_hasSplit : yX6_hasSplit.cls = RX6 ∧ yX6_hasSplit.cls ≠ "java/lang/invoke/MethodHandle" ∧ yX6_hasSplit.cls ≠ "java/lang/invoke/VarHandle" ∧ (parseMethodDescriptor yX6_hasSplit.desc).map (fun d => d.parameters.length) = some 1 := by decide +kernel
theorem gRX6_148 : ∀ x ∈ wsV RX6 148 RX6 yX6_sharing [Cond.code yX6_sharing cX6_sharing 4 (some .int)], x ∈ pm_tb := by decide +kernel
theorem vX6_sharing : yX6_sharing.cls = RX6 ∧ yX6_sharing.cls ≠ "java/lang/invoke/MethodHandle" ∧ yX6_sharing.cls ≠ "java/lang/invoke/VarHandle" ∧ (parseMethodDescriptor yX6_sharing.desc).map (fun d => d.parameters.length) = some 1 := by decide +kernel
theorem gRX6_154 : ∀ x ∈ [Cond.methodLink RX6 154 yX6_ones, Cond.static yX6_ones, Cond.initialized yX6_ones.cls, Cond.code yX6_ones cX6_ones 3 (some .int)], x ∈ pm_tb := by decide +kernel
theorem vX6_ones : yX6_ones.cls ≠ "java/lang/invoke/MethodHandle" ∧ yX6_ones.cls ≠ "java/lang/invoke/VarHandle" ∧ (parseMethodDescriptor yX6_ones.desc).map (fun d => d.parameters.length) = some 1 := by decide +kernel
theorem gRX6_157 : ∀ x ∈ wsV RX6 157 RX6 yX6_mostOf [Cond.code yX6_mostOf cX6_mostOf 6 (some .int)], x ∈ pm_tb := by decide +kernel
theorem vX6_mostOf : yX6_mostOf.cls = RX6 ∧ yX6_mostOf.cls ≠ "java/lang/invoke/MethodHandle" ∧ yX6_mostOf.cls ≠ "java/lang/invoke/VarHandle" ∧ (parseMethodDescriptor yX6_mostOf.desc).map (fun d => d.parameters.length) = some 1 := by decide +kernel
theorem gRX6_160 : ∀ x ∈ wsV RX6 160 RX6 yX6_leastOf [Cond.code yX6_leastOf cX6_leastOf 6 (some .int)], x ∈ pm_tb := by decide +kernel
theorem vX6_leastOf : yX6_leastOf.cls = RX6 ∧ yX6_leastOf.cls ≠ "java/lang/invoke/MethodHandle" ∧ yX6_leastOf.cls ≠ "java/lang/invoke/VarHandle" ∧ (parseMethodDescriptor yX6_leastOf.desc).map (fun d => d.parameters.length) = some 1 := by decide +kernel
theorem gRX6_163 : ∀ x ∈ wsV RX6 163 RX6 yX6_sum [Cond.code yX6_sum cX6_sum 4 (some .int)], x ∈ pm_tb := by decide +kernel
theorem vX6_sum : yX6_sum.cls = RX6 ∧ yX6_sum.cls ≠ "java/lang/invoke/MethodHandle" ∧ yX6_sum.cls ≠ "java/lang/invoke/VarHandle" ∧ (parseMethodDescriptor yX6_sum.desc).map (fun d => d.parameters.length) = some 1 := by decide +kernel
theorem gRX6_170 : ∀ x ∈ wsV RX6 170 RX6 yX6_part [Cond.code yX6_part cX6_part 6 (some .int)], x ∈ pm_tb := by decide +kernel
theorem vX6_part : yX6_part.cls = RX6 ∧ yX6_part.cls ≠ "java/lang/invoke/MethodHandle" ∧ yX6_part.cls ≠ "java/lang/invoke/VarHandle" ∧ (parseMethodDescriptor yX6_part.desc).map (fun d => d.parameters.length) = some 2 := by decide +kernel
theorem gRX6_173 : ∀ x ∈ wsV RX6 173 RX6 yX6_put [Cond.code yX6_put cX6_put 2 none], x ∈ pm_tb := by decide +kernel
theorem vX6_put : yX6_put.cls = RX6 ∧ yX6_put.cls ≠ "java/lang/invoke/MethodHandle" ∧ yX6_put.cls ≠ "java/lang/invoke/VarHandle" ∧ (parseMethodDescriptor yX6_put.desc).map (fun d => d.parameters.length) = some 1 := by decide +kernel
theorem gRX6_176 : ∀ x ∈ wsV RX6 176 RX6 yX6_spread [Cond.code yX6_spread cX6_spread 6 (some .int)], x ∈ pm_tb := by decide +kernel
theorem vX6_spread : yX6_spread.cls = RX6 ∧ yX6_spread.cls ≠ "java/lang/invoke/MethodHandle" ∧ yX6_spread.cls ≠ "java/lang/invoke/VarHandle" ∧ (parseMethodDescriptor yX6_spread.desc).map (fun d => d.parameters.length) = some 2 := by decide +kernel
theorem gRX6_179 : ∀ x ∈ wsV RX6 179 RX6 yX6_writeSplits [Cond.code yX6_writeSplits cX6_writeSplits 4 (some .int)], x ∈ pm_tb := by decide +kernel
theorem vX6_writeSplits : yX6_writeSplits.cls = RX6 ∧ yX6_writeSplits.cls ≠ "java/lang/invoke/MethodHandle" ∧ yX6_writeSplits.cls ≠ "java/lang/invoke/VarHandle" ∧ (parseMethodDescriptor yX6_writeSplits.desc).map (fun d => d.parameters.length) = some 0 := by decide +kernel
end
section
/-! rows on bits, shifts and unsigned numbers, to paste: each family out of a closed proof of our own, whole with what it rests on; each by itself clean at Lean in its own claim (generation 39, form 5). Take a family whole -/
/-! ===== Int32 by its bits: bt x i ===== -/
def bt (x : Int32) (i : Nat) : Bool := x.toBitVec.getLsbD i
theorem b_ext {x y : Int32} (h : ∀ i, i < 32 → bt x i = bt y i) : x = y := Int32.toBitVec_inj.mp (BitVec.eq_of_getLsbD_eq (fun i hi => h i hi))
theorem b_or (x y : Int32) (i : Nat) : bt (x ||| y) i = (bt x i || bt y i) := by unfold bt; rw [Int32.toBitVec_or, BitVec.getLsbD_or]
theorem b_and (x y : Int32) (i : Nat) : bt (x &&& y) i = (bt x i && bt y i) := by unfold bt; rw [Int32.toBitVec_and, BitVec.getLsbD_and]
theorem b_xor (x y : Int32) (i : Nat) : bt (x ^^^ y) i = (bt x i ^^ bt y i) := by unfold bt; rw [Int32.toBitVec_xor, BitVec.getLsbD_xor]
theorem b_big {x : Int32} {i : Nat} (h : 32 ≤ i) : bt x i = false := BitVec.getLsbD_of_ge _ _ h
theorem b_255 (i : Nat) : bt 255 i = decide (i < 8) := by
  rcases Nat.lt_or_ge i 32 with h | h
  · exact (by decide +kernel : ∀ i, i < 32 → bt 255 i = decide (i < 8)) i h
  · rw [b_big h, decide_eq_false (by omega)]
theorem b_65535 (i : Nat) : bt 65535 i = decide (i < 16) := by
  rcases Nat.lt_or_ge i 32 with h | h
  · exact (by decide +kernel : ∀ i, i < 32 → bt 65535 i = decide (i < 16)) i h
  · rw [b_big h, decide_eq_false (by omega)]
theorem b_m1 : ∀ i, i < 32 → bt (-1) i = true := by decide +kernel
theorem b_0 (i : Nat) : bt 0 i = false := BitVec.getLsbD_zero
theorem s_l : ∀ n, n < 32 → ((nI n &&& 31).toBitVec.smod 32).toNat = n := by decide +kernel
theorem s_u : ∀ n, n < 32 → (((nI n).toUInt32 &&& Int32.toUInt32 31).toBitVec % 32).toNat = n := by decide +kernel
theorem b_shl (n : Nat) (hn : n < 32) (x : Int32) {i : Nat} (hi : i < 32) : bt (x <<< (nI n &&& 31)) i = (decide (n ≤ i) && bt x (i - n)) := by
  unfold bt
  rw [Int32.toBitVec_shiftLeft]
  show (x.toBitVec <<< ((nI n &&& 31).toBitVec.smod 32).toNat).getLsbD i = _
  rw [s_l n hn, BitVec.getLsbD_shiftLeft]
  rcases Nat.lt_or_ge i n with h | h
  · simp [h, Nat.not_le.mpr h]
  · simp [hi, h, Nat.not_lt.mpr h]
theorem b_ushr (n : Nat) (hn : n < 32) (x : Int32) (i : Nat) : bt ((x.toUInt32 >>> ((nI n).toUInt32 &&& Int32.toUInt32 31)).toInt32) i = bt x (n + i) := by
  show (x.toUInt32 >>> ((nI n).toUInt32 &&& Int32.toUInt32 31)).toBitVec.getLsbD i = x.toUInt32.toBitVec.getLsbD (n + i)
  rw [UInt32.toBitVec_shiftRight]
  show (x.toUInt32.toBitVec >>> (((nI n).toUInt32 &&& Int32.toUInt32 31).toBitVec % 32).toNat).getLsbD i = _
  rw [s_u n hn, BitVec.getLsbD_ushiftRight]
theorem b_sshr (n : Nat) (hn : n < 32) (x : Int32) {i : Nat} (hi : i < 32) : bt (x >>> (nI n &&& 31)) i = if n + i < 32 then bt x (n + i) else bt x 31 := by
  unfold bt
  rw [Int32.toBitVec_shiftRight]
  show (x.toBitVec.sshiftRight ((nI n &&& 31).toBitVec.smod 32).toNat).getLsbD i = _
  rw [s_l n hn, BitVec.getLsbD_sshiftRight, BitVec.msb_eq_getLsbD_last]
  simp [hi]
theorem b_shl8 (x : Int32) {i : Nat} (hi : i < 32) : bt (x <<< ((8 : Int32) &&& 31)) i = (decide (8 ≤ i) && bt x (i - 8)) := b_shl 8 (by omega) x hi
theorem b_shl16 (x : Int32) {i : Nat} (hi : i < 32) : bt (x <<< ((16 : Int32) &&& 31)) i = (decide (16 ≤ i) && bt x (i - 16)) := b_shl 16 (by omega) x hi
theorem b_shl24 (x : Int32) {i : Nat} (hi : i < 32) : bt (x <<< ((24 : Int32) &&& 31)) i = (decide (24 ≤ i) && bt x (i - 24)) := b_shl 24 (by omega) x hi
theorem b_sshr8 (x : Int32) {i : Nat} (hi : i < 32) : bt (x >>> ((8 : Int32) &&& 31)) i = if 8 + i < 32 then bt x (8 + i) else bt x 31 := b_sshr 8 (by omega) x hi
/-! ===== nI under and, xor, >>>, one bit, 65535 ===== -/
theorem nx_and (a b : Nat) : nI a &&& nI b = nI (a &&& b) := by
  apply Int32.toBitVec_inj.1
  show BitVec.ofNat 32 a &&& BitVec.ofNat 32 b = BitVec.ofNat 32 (a &&& b)
  apply BitVec.eq_of_getLsbD_eq
  intro i hi
  simp [hi]
theorem nx_xor (a b : Nat) : nI a ^^^ nI b = nI (a ^^^ b) := by
  apply Int32.toBitVec_inj.1
  show BitVec.ofNat 32 a ^^^ BitVec.ofNat 32 b = BitVec.ofNat 32 (a ^^^ b)
  apply BitVec.eq_of_getLsbD_eq
  intro i hi
  simp [hi]
theorem nx_cnt : ∀ j : Fin 32, (UInt32.ofNat j.val &&& Int32.toUInt32 31).toNat % 32 = j.val := by decide +kernel
theorem nx_ush {k j : Nat} (hk : k < 65536) (hj : j < 32) : ((nI k).toUInt32 >>> ((nI j).toUInt32 &&& Int32.toUInt32 31)).toInt32 = nI (k >>> j) := by
  have hs : k >>> j ≤ k := by
    rw [Nat.shiftRight_eq_div_pow]
    exact Nat.div_le_self _ _
  have e2 : UInt32.ofNat k >>> (UInt32.ofNat j &&& Int32.toUInt32 31) = UInt32.ofNat (k >>> j) := by
    apply UInt32.toNat_inj.1
    have h1 : (UInt32.ofNat k).toNat = k := Nat.mod_eq_of_lt (by omega)
    have h2 : (UInt32.ofNat (k >>> j)).toNat = k >>> j := Nat.mod_eq_of_lt (by omega)
    rw [UInt32.toNat_shiftRight, nx_cnt ⟨j, hj⟩, h1, h2]
  show (UInt32.ofNat k >>> (UInt32.ofNat j &&& Int32.toUInt32 31)).toInt32 = _
  rw [e2]
  rfl
theorem nx_bit {k j : Nat} (hk : k < 65536) (hj : j < 16) : (((nI k).toUInt32 >>> ((nI j).toUInt32 &&& Int32.toUInt32 31)).toInt32 &&& 1) = 0 ↔ k.testBit j = false := by
  rw [nx_ush hk (by omega)]
  show nI (k >>> j) &&& nI 1 = 0 ↔ _
  rw [nx_and, Nat.and_one_is_mod, ← nI_0, nI_eq (by omega) (by omega), Nat.testBit_eq_decide_div_mod_eq, Nat.shiftRight_eq_div_pow, decide_eq_false_iff_not]
  generalize k / 2 ^ j = z
  omega
theorem nx_mod (k : Nat) : nI k &&& 65535 = nI (k % 65536) := by
  show nI k &&& nI 65535 = _
  rw [nx_and, show (65535 : Nat) = 2 ^ 16 - 1 from rfl, Nat.and_two_pow_sub_one_eq_mod]
theorem nx_m16 {k : Nat} (h : k < 65536) : nI k &&& 65535 = nI k := by rw [nx_mod, Nat.mod_eq_of_lt h]
theorem nx_mask (x : Int32) : ∃ k, k < 65536 ∧ x &&& 65535 = nI k := by
  have e : x = nI x.toBitVec.toNat := by
    apply Int32.toBitVec_inj.1
    show x.toBitVec = BitVec.ofNat 32 x.toBitVec.toNat
    simp
  refine ⟨x.toBitVec.toNat % 65536, Nat.mod_lt _ (by omega), ?_⟩
  rw [← nx_mod, ← e]
/-! ===== Int32 as a set of bits: test, set ===== -/
def nf_M (m : Int32) : Nat := 4294967296 - m.toBitVec.toNat
theorem nf_sh : ∀ l, l < 32 → ((1 : Int32) <<< (nI l &&& 31)).toBitVec = BitVec.twoPow 32 l := by decide +kernel
theorem nf_sl : ∀ l, l < 32 → (((nI l).toUInt32 &&& Int32.toUInt32 31).toBitVec % 32).toNat = l := by decide +kernel
theorem nf_tp : ∀ l, l < 32 → BitVec.twoPow 32 l ≠ 0#32 := by decide +kernel
theorem nf_bit (m : Int32) (l : Nat) (hl : l < 32) : ((m.toUInt32 >>> ((nI l).toUInt32 &&& Int32.toUInt32 31)).toInt32 &&& 1) = 0 ↔ (m &&& ((1 : Int32) <<< (nI l &&& 31))) = 0 := by
  have e : ((m.toUInt32 >>> ((nI l).toUInt32 &&& Int32.toUInt32 31)).toInt32).toBitVec = m.toBitVec >>> l := by
    show m.toBitVec >>> (((nI l).toUInt32 &&& Int32.toUInt32 31).toBitVec % 32) = m.toBitVec >>> l
    rw [BitVec.ushiftRight_eq', nf_sl l hl]
  rw [← Int32.toBitVec_inj, ← Int32.toBitVec_inj, Int32.toBitVec_and, Int32.toBitVec_and, nf_sh l hl, e, BitVec.and_twoPow]
  show (m.toBitVec >>> l &&& 1#32) = 0#32 ↔ _ = 0#32
  rw [BitVec.and_one_eq_setWidth_ofBool_getLsbD, BitVec.getLsbD_ushiftRight, Nat.add_zero]
  cases hb : m.toBitVec.getLsbD l
  · exact ⟨fun _ => by simp, fun _ => by decide⟩
  · exact ⟨fun z => absurd z (by decide), fun z => absurd ((if_pos rfl).symm.trans z) (nf_tp l hl)⟩
theorem nf_gr (m k : Int32) (h : m &&& k = 0) (hk : k ≠ 0) : nf_M (m ||| k) < nf_M m := by
  have hm := m.toBitVec.isLt
  have hm' := (m ||| k).toBitVec.isLt
  have h1 : m.toBitVec.toNat ≤ (m ||| k).toBitVec.toNat := by
    rw [Int32.toBitVec_or, BitVec.toNat_or]
    exact Nat.left_le_or
  have h2 : m.toBitVec.toNat ≠ (m ||| k).toBitVec.toNat := by
    intro e
    have e2 : m = m ||| k := Int32.toBitVec_inj.mp (BitVec.eq_of_toNat_eq e)
    apply hk
    apply Int32.toBitVec_inj.mp
    show k.toBitVec = 0#32
    apply BitVec.eq_of_getLsbD_eq
    intro i hi
    have a : m.toBitVec.getLsbD i = (m.toBitVec.getLsbD i || k.toBitVec.getLsbD i) := by rw [← BitVec.getLsbD_or, ← Int32.toBitVec_or, ← e2]
    have b : (m.toBitVec.getLsbD i && k.toBitVec.getLsbD i) = false := by
      rw [← BitVec.getLsbD_and, ← Int32.toBitVec_and, h]
      exact BitVec.getLsbD_zero
    rw [BitVec.getLsbD_zero]
    revert a b
    cases m.toBitVec.getLsbD i <;> cases k.toBitVec.getLsbD i <;> simp
  unfold nf_M
  omega
/-! ===== a byte read unsigned ===== -/
theorem bp_b (x : Int32) : x.toInt8.toInt32 &&& 255 = x &&& 255 := by
  apply Int32.toBitVec_inj.mp
  rw [Int32.toBitVec_and, Int32.toBitVec_and, Int8.toBitVec_toInt32, Int32.toBitVec_toInt8]
  apply BitVec.eq_of_getLsbD_eq
  intro i hi
  rw [BitVec.getLsbD_and, BitVec.getLsbD_and]
  have hm : ∀ i < 32, 8 ≤ i → (255 : Int32).toBitVec.getLsbD i = false := by decide
  rcases Nat.lt_or_ge i 8 with z | z
  · rw [BitVec.getLsbD_signExtend, BitVec.getLsbD_signExtend, if_pos z, if_pos hi]
    simp only [z, hi, decide_true, Bool.true_and]
  · rw [hm i hi z]; simp
/-! ===== the char cast and 65535 ===== -/
/-! ===== Int64 as a set of bits: test, set, clear ===== -/
theorem ts_nf {x : Bool} (h : ¬ x = false) : x = true := by cases x <;> first | rfl | exact absurd rfl h
theorem ts_nt {x : Bool} (h : ¬ x = true) : x = false := by cases x <;> first | rfl | exact absurd rfl h
theorem ts_bit {w : Int64} {s : UInt64} {j : Nat} (hj : j < 64) (hs : s.toNat = j) : ((w.toUInt64 >>> s).toInt64 &&& 1) = 0 ↔ w.toBitVec.getLsbD j = false := by
  have e : (w.toUInt64 >>> s).toInt64.toBitVec = w.toBitVec >>> j := by
    apply BitVec.eq_of_toNat_eq
    show (w.toUInt64 >>> s).toNat = _
    rw [UInt64.toNat_shiftRight, hs, Nat.mod_eq_of_lt hj, BitVec.toNat_ushiftRight]
    rfl
  rw [← Int64.toBitVec_inj, Int64.toBitVec_and, e]
  show w.toBitVec >>> j &&& 1#64 = 0#64 ↔ _
  constructor
  · intro h
    have t := congrArg (fun x => x.getLsbD 0) h
    simpa using t
  · intro h
    apply BitVec.eq_of_getLsbD_eq
    intro i hi
    cases i with
    | zero => simp [h]
    | succ i => simp
theorem ts_or {w m : Int64} {j : Nat} (hj : j < 64) (hm : m.toBitVec = BitVec.twoPow 64 j) : (w ||| m) = w ↔ w.toBitVec.getLsbD j = true := by
  rw [← Int64.toBitVec_inj, Int64.toBitVec_or, hm]
  constructor
  · intro h
    have t := congrArg (fun x => x.getLsbD j) h
    simp only [BitVec.getLsbD_or, BitVec.getLsbD_twoPow] at t
    simpa [hj] using t.symm
  · intro h
    apply BitVec.eq_of_getLsbD_eq
    intro i hi
    rw [BitVec.getLsbD_or, BitVec.getLsbD_twoPow]
    by_cases e : j = i
    · subst e; rw [h, Bool.true_or]
    · simp [e]
theorem ts_and {w m : Int64} {j : Nat} (hj : j < 64) (hm : m.toBitVec = BitVec.twoPow 64 j) : (w &&& (m ^^^ (-1))) = w ↔ w.toBitVec.getLsbD j = false := by
  have ha : (-1 : Int64).toBitVec = BitVec.allOnes 64 := by decide
  rw [← Int64.toBitVec_inj, Int64.toBitVec_and, Int64.toBitVec_xor, hm, ha]
  constructor
  · intro h
    have t := congrArg (fun x => x.getLsbD j) h
    simp only [BitVec.getLsbD_and, BitVec.getLsbD_xor, BitVec.getLsbD_twoPow, BitVec.getLsbD_allOnes] at t
    simpa [hj] using t.symm
  · intro h
    apply BitVec.eq_of_getLsbD_eq
    intro i hi
    rw [BitVec.getLsbD_and, BitVec.getLsbD_xor, BitVec.getLsbD_twoPow, BitVec.getLsbD_allOnes]
    by_cases e : j = i
    · subst e; rw [h, Bool.false_and]
    · simp [e, hi]
/-! ===== lN n to 2^64: shifts, and, or, masks, one bit ===== -/
theorem wb_tb (n : Nat) : (lN n).toBitVec = BitVec.ofNat 64 n := rfl
theorem wb_inj {a b : Int64} (h : a.toBitVec = b.toBitVec) : a = b := Int64.toBitVec_inj.mp h
theorem wb_tn {n : Nat} (h : n < 2 ^ 64) : (lN n).toBitVec.toNat = n := by rw [wb_tb, BitVec.toNat_ofNat, Nat.mod_eq_of_lt h]
theorem wb_of (x : Int64) : ∃ n, n < 2 ^ 64 ∧ x = lN n := ⟨x.toBitVec.toNat, x.toBitVec.isLt, wb_inj (by rw [wb_tb]; simp)⟩
theorem wb_of32 (x : Int32) : ∃ n, n < 2 ^ 32 ∧ x = nI n := ⟨x.toBitVec.toNat, x.toBitVec.isLt, Int32.toBitVec_inj.mp (by show _ = BitVec.ofNat 32 _; simp)⟩
theorem wb_c : ∀ k, k < 64 → ((nI k).toInt64 &&& 63) = lN k := by decide +kernel
theorem wb_cu : ∀ k, k < 64 → ((nI k).toInt64.toUInt64 &&& Int64.toUInt64 63) = UInt64.ofNat k := by decide +kernel
theorem wb_sm : ∀ k, k < 64 → (BitVec.ofNat 64 k).smod 64 = BitVec.ofNat 64 k := by decide +kernel
theorem wb_pw {a b : Nat} (h : a ≤ b) : 2 ^ b = 2 ^ a * 2 ^ (b - a) := by rw [← Nat.pow_add]; congr 1; omega
theorem wb_lt2 {a b : Nat} (h : a < b) : 2 ^ a < 2 ^ b := Nat.pow_lt_pow_right (by decide) h
theorem wb_mod (n : Nat) : lN n = lN (n % 2 ^ 64) := wb_inj (by rw [wb_tb, wb_tb]; apply BitVec.eq_of_toNat_eq; rw [BitVec.toNat_ofNat, BitVec.toNat_ofNat, Nat.mod_mod])
theorem wb_shr {n k : Nat} (hn : n < 2 ^ 64) (hk : k < 64) : ((lN n).toUInt64 >>> ((nI k).toInt64.toUInt64 &&& Int64.toUInt64 63)).toInt64 = lN (n / 2 ^ k) := by
  rw [wb_cu k hk]
  apply wb_inj
  apply BitVec.eq_of_toNat_eq
  show ((lN n).toUInt64 >>> UInt64.ofNat k).toNat = (BitVec.ofNat 64 _).toNat
  have h1 : (UInt64.ofNat k).toNat = k := by
    show (BitVec.ofNat 64 k).toNat = k
    rw [BitVec.toNat_ofNat, Nat.mod_eq_of_lt (by omega)]
  have h2 : (lN n).toUInt64.toNat = n := wb_tn hn
  rw [UInt64.toNat_shiftRight, h1, h2, Nat.mod_eq_of_lt hk, Nat.shiftRight_eq_div_pow, BitVec.toNat_ofNat, Nat.mod_eq_of_lt (Nat.lt_of_le_of_lt (Nat.div_le_self _ _) hn)]
theorem wb_shl (n : Nat) {k : Nat} (hk : k < 64) : lN n <<< ((nI k).toInt64 &&& 63) = lN (n * 2 ^ k) := by
  rw [wb_c k hk]
  apply wb_inj
  rw [Int64.toBitVec_shiftLeft, wb_tb, wb_tb, wb_tb, wb_sm k hk]
  apply BitVec.eq_of_toNat_eq
  rw [BitVec.shiftLeft_eq', BitVec.toNat_shiftLeft, BitVec.toNat_ofNat, BitVec.toNat_ofNat, BitVec.toNat_ofNat, Nat.mod_eq_of_lt (show k < 2 ^ 64 by omega), Nat.shiftLeft_eq, Nat.mul_mod, Nat.mod_mod, ← Nat.mul_mod]
theorem wb_and {a b : Nat} (ha : a < 2 ^ 64) (hb : b < 2 ^ 64) : lN a &&& lN b = lN (a &&& b) := by
  apply wb_inj
  rw [Int64.toBitVec_and, wb_tb, wb_tb, wb_tb]
  apply BitVec.eq_of_toNat_eq
  rw [BitVec.toNat_and, BitVec.toNat_ofNat, BitVec.toNat_ofNat, BitVec.toNat_ofNat, Nat.mod_eq_of_lt ha, Nat.mod_eq_of_lt hb, Nat.mod_eq_of_lt (Nat.and_lt_two_pow _ hb)]
theorem wb_or {a b : Nat} (ha : a < 2 ^ 64) (hb : b < 2 ^ 64) : lN a ||| lN b = lN (a ||| b) := by
  apply wb_inj
  rw [Int64.toBitVec_or, wb_tb, wb_tb, wb_tb]
  apply BitVec.eq_of_toNat_eq
  rw [BitVec.toNat_or, BitVec.toNat_ofNat, BitVec.toNat_ofNat, BitVec.toNat_ofNat, Nat.mod_eq_of_lt ha, Nat.mod_eq_of_lt hb, Nat.mod_eq_of_lt (Nat.or_lt_two_pow ha hb)]
theorem wb_mask {n k : Nat} (hn : n < 2 ^ 64) (hk : k < 64) : lN n &&& lN (2 ^ k - 1) = lN (n % 2 ^ k) := by
  rw [wb_and hn (by have := wb_lt2 hk; omega), Nat.and_two_pow_sub_one_eq_mod]
theorem wb_a1 {n : Nat} (hn : n < 2 ^ 64) : lN n &&& 1 = lN (n % 2) := wb_mask (k := 1) hn (by decide)
theorem wb_bit {n k : Nat} (hn : n < 2 ^ 64) (hk : k < 64) : ((lN n).toUInt64 >>> ((nI k).toInt64.toUInt64 &&& Int64.toUInt64 63)).toInt64 &&& 1 = lN (n / 2 ^ k % 2) := by
  rw [wb_shr hn hk, wb_a1 (Nat.lt_of_le_of_lt (Nat.div_le_self _ _) hn)]
theorem wb_xor {q k : Nat} (hk : k < 63) (h : 2 ^ k ≤ q) (h2 : q < 2 ^ (k + 1)) : lN q ^^^ lN (2 ^ k) = lN (q - 2 ^ k) := by
  obtain ⟨r, rfl⟩ : ∃ r, q = 2 ^ k + r := ⟨q - 2 ^ k, by omega⟩
  have hr : r < 2 ^ k := by rw [Nat.pow_succ] at h2; omega
  have hx : (2 ^ k + r) ^^^ 2 ^ k = r := by
    apply Nat.eq_of_testBit_eq
    intro i
    rw [Nat.testBit_xor, Nat.testBit_two_pow]
    rcases Nat.lt_trichotomy i k with h | h | h
    · rw [Nat.testBit_two_pow_add_gt h]
      simp [show ¬ k = i by omega]
    · subst h
      rw [Nat.testBit_two_pow_add_eq]
      simp
    · have a1 : 2 ^ (k + 1) ≤ 2 ^ i := Nat.pow_le_pow_right (by decide) h
      rw [Nat.testBit_lt_two_pow (show 2 ^ k + r < 2 ^ i by omega), Nat.testBit_lt_two_pow (show r < 2 ^ i by omega)]
      simp [show ¬ k = i by omega]
  have b1 := wb_lt2 (show k + 1 < 64 by omega)
  have b2 := wb_lt2 (show k < 64 by omega)
  apply wb_inj
  rw [Int64.toBitVec_xor, wb_tb, wb_tb, wb_tb]
  apply BitVec.eq_of_toNat_eq
  rw [BitVec.toNat_xor, BitVec.toNat_ofNat, BitVec.toNat_ofNat, BitVec.toNat_ofNat, Nat.mod_eq_of_lt (by omega : 2 ^ k + r < 2 ^ 64), Nat.mod_eq_of_lt b2, hx, Nat.add_sub_cancel_left, Nat.mod_eq_of_lt (by omega)]
/-! ===== lN: masks, 'or' of parts that don't overlap is a sum ===== -/
theorem u_tn {n : Nat} (h : n < 2 ^ 64) : (UInt64.ofNat n).toNat = n := Nat.mod_eq_of_lt h
theorem g_and {a b c : Nat} (ha : a < 2 ^ 64) (hb : b < 2 ^ 64) (hc : a &&& b = c) : lN a &&& lN b = lN c := by
  subst hc
  have h : UInt64.ofNat a &&& UInt64.ofNat b = UInt64.ofNat (a &&& b) := UInt64.toNat_inj.mp (by rw [UInt64.toNat_and, u_tn ha, u_tn hb, u_tn (Nat.and_lt_two_pow a hb)])
  have h2 := congrArg UInt64.toInt64 h
  exact h2
theorem g_and1 {a : Nat} (ha : a < 2 ^ 64) : lN a &&& 1 = lN (a % 2) := g_and (b := 1) ha (by decide) (Nat.and_two_pow_sub_one_eq_mod a 1)
theorem g_mask {a s p : Nat} (hp : 2 ^ s = p) (hs : s < 64) (ha : a < 2 ^ 64) : lN a &&& lN (p - 1) = lN (a % p) := by
  subst hp
  have := Nat.pow_lt_pow_right (show 1 < 2 by decide) hs
  exact g_and ha (by omega) (Nat.and_two_pow_sub_one_eq_mod a s)
theorem g_or {k p a b : Nat} (hp : 2 ^ k = p) (ha : a < p) (h : b * p + a < 2 ^ 64) : lN (b * p) ||| lN a = lN (b * p + a) := by
  subst hp
  have h1 : b * 2 ^ k ||| a = b * 2 ^ k + a := by rw [← Nat.shiftLeft_eq, Nat.shiftLeft_add_eq_or_of_lt ha]
  have h3 : UInt64.ofNat (b * 2 ^ k) ||| UInt64.ofNat a = UInt64.ofNat (b * 2 ^ k + a) := UInt64.toNat_inj.mp (by rw [UInt64.toNat_or, u_tn (by omega), u_tn (by omega), u_tn h, h1])
  have h2 := congrArg UInt64.toInt64 h3
  exact h2
theorem g_or' {k p a b : Nat} (hp : 2 ^ k = p) (ha : a < p) (h : a + b * p < 2 ^ 64) : lN a ||| lN (b * p) = lN (a + b * p) := by
  rw [Int64.or_comm, g_or hp ha (by omega), Nat.add_comm]
theorem g_ushr {a k p : Nat} {y : UInt64} (hy : y = UInt64.ofNat k) (hk : k < 64) (hp : 2 ^ k = p) (ha : a < 2 ^ 64) : ((lN a).toUInt64 >>> y).toInt64 = lN (a / p) := by
  subst hy hp
  have h : UInt64.ofNat a >>> UInt64.ofNat k = UInt64.ofNat (a / 2 ^ k) := UInt64.toNat_inj.mp (by rw [UInt64.toNat_shiftRight, u_tn ha, u_tn (by omega), u_tn (Nat.lt_of_le_of_lt (Nat.div_le_self _ _) ha), Nat.mod_eq_of_lt hk, Nat.shiftRight_eq_div_pow])
  have h2 := congrArg UInt64.toInt64 h
  exact h2
theorem g_shl {a k p : Nat} {y : Int64} (hy : y.toBitVec.smod 64 = BitVec.ofNat 64 k) (hk : k < 64) (hp : 2 ^ k = p) (ha : a < 2 ^ 64) : lN a <<< y = lN (a * p) := by
  subst hp
  apply Int64.toBitVec_inj.mp
  rw [Int64.toBitVec_shiftLeft, hy]
  apply BitVec.eq_of_toNat_eq
  have hb : (lN a).toBitVec.toNat = a := Nat.mod_eq_of_lt ha
  have hk' : (BitVec.ofNat 64 k).toNat = k := Nat.mod_eq_of_lt (by omega)
  have h : ((lN a).toBitVec <<< BitVec.ofNat 64 k).toNat = (a * 2 ^ k) % 2 ^ 64 := by simp only [BitVec.shiftLeft_eq', BitVec.toNat_shiftLeft, hb, hk', Nat.shiftLeft_eq]
  exact h
/-! ===== lN to 2^62 under >> and >>> ===== -/
theorem pf_lI {a : Nat} (h : a < 2 ^ 63) : (lN a).toInt = (a : Int) := lg_ofNat_toInt h
theorem pf_shr {a d : Nat} {D : Int64} (hD : (D.toBitVec.smod 64).toNat = d) (h : a < 2 ^ 62) : lN a >>> D = lN (a / 2 ^ d) := by
  have hd : a / 2 ^ d ≤ a := Nat.div_le_self _ _
  apply Int64.toInt_inj.mp
  have e : (lN a >>> D).toInt = (lN a).toInt >>> d := by
    rw [← hD]
    exact BitVec.toInt_sshiftRight ..
  rw [e, Int.shiftRight_eq_div_pow, pf_lI (by omega), pf_lI (by omega)]
  rfl
theorem pf_ushr {a d : Nat} {D : UInt64} (hD : D.toNat % 64 = d) (h : a < 2 ^ 62) : ((lN a).toUInt64 >>> D).toInt64 = lN (a / 2 ^ d) := by
  have hd : a / 2 ^ d ≤ a := Nat.div_le_self _ _
  have e : (lN a).toUInt64 >>> D = UInt64.ofNat (a / 2 ^ d) := UInt64.toNat_inj.mp (by
    rw [UInt64.toNat_shiftRight, hD, Nat.shiftRight_eq_div_pow, UInt64.toNat_ofNat']
    show (UInt64.ofNat a).toNat / 2 ^ d = _
    rw [UInt64.toNat_ofNat', Nat.mod_eq_of_lt (by omega), Nat.mod_eq_of_lt (by omega)])
  rw [e]
  rfl
theorem pf_andw (x : Int64) : ∃ m, m < 2 ^ 32 ∧ x &&& 4294967295 = lN m := ⟨x.toBitVec.toNat % 2 ^ 32, Nat.mod_lt _ (by decide), Int64.toBitVec_inj.mp (BitVec.eq_of_toNat_eq (by
  show (x.toBitVec &&& 4294967295#64).toNat = (BitVec.ofNat 64 (x.toBitVec.toNat % 2 ^ 32)).toNat
  rw [BitVec.toNat_and, show (4294967295#64).toNat = 2 ^ 32 - 1 from by decide, Nat.and_two_pow_sub_one_eq_mod, BitVec.toNat_ofNat]
  omega))⟩
/-! ===== Int64 as an unsigned number: uN x ===== -/
def uN (x : Int64) : Nat := x.toUInt64.toNat
theorem uN_lt (x : Int64) : uN x < 18446744073709551616 := x.toUInt64.toNat_lt
theorem uN_inj {x y : Int64} (h : uN x = uN y) : x = y := congrArg UInt64.toInt64 (UInt64.toNat_inj.mp h)
theorem uN_add (x y : Int64) : uN (x + y) = (uN x + uN y) % 18446744073709551616 := by
  show (x.toUInt64 + y.toUInt64).toNat = _
  exact UInt64.toNat_add _ _
theorem uN_mul (x y : Int64) : uN (x * y) = (uN x * uN y) % 18446744073709551616 := by
  show (x.toUInt64 * y.toUInt64).toNat = _
  exact UInt64.toNat_mul _ _
theorem uN_shl (x : Int64) : uN (x <<< ((1 : Int32).toInt64 &&& 63)) = (2 * uN x) % 18446744073709551616 := by
  have h : (((1 : Int32).toInt64 &&& 63).toBitVec.smod 64).toNat = 1 := by decide
  show (x.toBitVec <<< (((1 : Int32).toInt64 &&& 63).toBitVec.smod 64).toNat).toNat = _
  rw [h, BitVec.toNat_shiftLeft, Nat.shiftLeft_eq, Nat.mul_comm]
  rfl
theorem uN_shr (x : Int64) (s : UInt64) : uN (x.toUInt64 >>> s).toInt64 = uN x / 2 ^ (s.toNat % 64) := by
  show (x.toUInt64 >>> s).toNat = _
  rw [UInt64.toNat_shiftRight, Nat.shiftRight_eq_div_pow]
  rfl
theorem uN_s32 (x : Int64) : uN (x.toUInt64 >>> ((32 : Int32).toInt64.toUInt64 &&& Int64.toUInt64 63)).toInt64 = uN x / 4294967296 := by
  have h : ((32 : Int32).toInt64.toUInt64 &&& Int64.toUInt64 63).toNat % 64 = 32 := by decide
  rw [uN_shr, h]
theorem uN_s63 (x : Int64) : uN (x.toUInt64 >>> ((63 : Int32).toInt64.toUInt64 &&& Int64.toUInt64 63)).toInt64 = uN x / 9223372036854775808 := by
  have h : ((63 : Int32).toInt64.toUInt64 &&& Int64.toUInt64 63).toNat % 64 = 63 := by decide
  rw [uN_shr, h]
theorem uN_lo (x : Int64) : uN (x &&& 4294967295) = uN x % 4294967296 := by
  show (x.toUInt64 &&& Int64.toUInt64 4294967295).toNat = _
  rw [UInt64.toNat_and]
  exact Nat.and_two_pow_sub_one_eq_mod _ 32
theorem uN_bit (x : Int64) : (x &&& 1) = 0 ↔ uN x % 2 = 0 := by
  have h : uN (x &&& 1) = uN x % 2 := by
    show (x.toUInt64 &&& Int64.toUInt64 1).toNat = _
    rw [UInt64.toNat_and]
    exact Nat.and_two_pow_sub_one_eq_mod _ 1
  rw [← h]
  exact ⟨fun z => by rw [z]; rfl, fun z => uN_inj (z.trans rfl)⟩
theorem uN_or {x y : Int64} (hy : uN y < 2) : uN ((x <<< ((1 : Int32).toInt64 &&& 63)) ||| y) = (2 * uN x) % 18446744073709551616 + uN y := by
  have h1 : uN ((x <<< ((1 : Int32).toInt64 &&& 63)) ||| y) = uN (x <<< ((1 : Int32).toInt64 &&& 63)) ||| uN y := UInt64.toNat_or _ _
  have h2 : (2 * uN x) % 18446744073709551616 = 2 ^ 1 * (uN x % 9223372036854775808) := by omega
  rw [h1, uN_shl, h2]
  exact (Nat.two_pow_add_eq_or_of_lt (i := 1) hy _).symm
theorem nat_xor {a : Nat} (h : a < 18446744073709551616) : a ^^^ 2 ^ 63 = (a + 9223372036854775808) % 18446744073709551616 := by
  have h1 : (a ^^^ 2 ^ 63) % 2 ^ 63 = a % 2 ^ 63 := by rw [Nat.xor_mod_two_pow, Nat.mod_self, Nat.xor_zero]
  have h2 : (a ^^^ 2 ^ 63) / 2 ^ 63 = (a / 2 ^ 63) ^^^ 1 := by rw [Nat.xor_div_two_pow, Nat.div_self (Nat.two_pow_pos 63)]
  have h3 : a / 2 ^ 63 = 0 ∨ a / 2 ^ 63 = 1 := by omega
  generalize a ^^^ 2 ^ 63 = t at h1 h2
  rcases h3 with h3 | h3
  · rw [h3] at h2
    have h2 : t / 2 ^ 63 = 1 := h2
    omega
  · rw [h3] at h2
    have h2 : t / 2 ^ 63 = 0 := h2
    omega
theorem uN_xor (x : Int64) : uN (x ^^^ (-9223372036854775808)) = (uN x + 9223372036854775808) % 18446744073709551616 := by
  rw [← nat_xor (uN_lt x)]
  exact UInt64.toNat_xor _ _
theorem uN_int (x : Int64) : x.toInt = if 2 * uN x < 18446744073709551616 then (uN x : Int) else (uN x : Int) - 18446744073709551616 := BitVec.toInt_eq_toNat_cond _
theorem uN_le (x y : Int64) : (x ^^^ (-9223372036854775808)) ≤ (y ^^^ (-9223372036854775808)) ↔ uN x ≤ uN y := by
  have hx := uN_lt x
  have hy := uN_lt y
  rw [Int64.le_iff_toInt_le, uN_int, uN_int, uN_xor, uN_xor]
  omega
theorem uN_sk (x : Int64) {k : Nat} (hk : k < 64) : uN (x.toUInt64 >>> ((nI k).toInt64.toUInt64 &&& Int64.toUInt64 63)).toInt64 = uN x / 2 ^ k := by
  have h : ((nI k).toInt64.toUInt64 &&& Int64.toUInt64 63).toNat % 64 = k := by
    rw [nI_l (by omega), UInt64.toNat_and]
    have e : (lN k).toUInt64.toNat = k % 2 ^ 64 := rfl
    have e2 : (Int64.toUInt64 63).toNat = 2 ^ 6 - 1 := by decide
    rw [e, e2, Nat.and_two_pow_sub_one_eq_mod]
    omega
  rw [uN_shr, h]
/-! ===== unsigned comparison by xor with the least ===== -/
theorem lN_bv (n : Nat) : (lN n).toBitVec = BitVec.ofNat 64 n := rfl
theorem lN_nat {n : Nat} (h : n < 2 ^ 64) : (lN n).toBitVec.toNat = n := by rw [lN_bv, BitVec.toNat_ofNat]; exact Nat.mod_eq_of_lt h
theorem lN_xor (a b : Nat) : lN a ^^^ lN b = lN (a ^^^ b) := by
  apply Int64.toBitVec_inj.mp; rw [Int64.toBitVec_xor, lN_bv, lN_bv, lN_bv]; apply BitVec.eq_of_getLsbD_eq; intro i hi; simp [BitVec.getLsbD_ofNat, Nat.testBit_xor, hi]
theorem lN_ti {m : Nat} (h : m < 2 ^ 64) : (lN m).toInt = if m < 2 ^ 63 then (m : Int) else (m : Int) - 2 ^ 64 := by
  have c := BitVec.toInt_eq_toNat_cond (lN m).toBitVec
  rw [lN_nat h] at c
  show (lN m).toBitVec.toInt = _
  rw [c]
  split <;> split <;> omega
theorem xor63 {x : Nat} (h : x < 2 ^ 63) : x ^^^ 2 ^ 63 = 2 ^ 63 + x := by
  apply Nat.eq_of_testBit_eq
  intro i
  rw [Nat.testBit_xor, Nat.testBit_two_pow]
  rcases Nat.lt_trichotomy i 63 with z | z | z
  · rw [Nat.testBit_two_pow_add_gt z, decide_eq_false (by omega)]; simp
  · subst z; rw [Nat.testBit_two_pow_add_eq]; simp
  · have hp : 2 ^ 64 ≤ 2 ^ i := Nat.pow_le_pow_right (by decide) z
    rw [Nat.testBit_lt_two_pow (show x < 2 ^ i by omega), Nat.testBit_lt_two_pow (show 2 ^ 63 + x < 2 ^ i by omega), decide_eq_false (by omega)]; rfl
theorem xorS {a : Nat} (h : a < 2 ^ 64) : (lN a ^^^ (-9223372036854775808)).toInt = (a : Int) - 2 ^ 63 := by
  rw [show (-9223372036854775808 : Int64) = lN (2 ^ 63) from by decide +kernel, lN_xor]
  rcases Nat.lt_or_ge a (2 ^ 63) with z | z
  · rw [xor63 z, lN_ti (by omega), if_neg (by omega)]; omega
  · obtain ⟨x, rfl⟩ : ∃ x, a = 2 ^ 63 + x := ⟨a - 2 ^ 63, by omega⟩
    rw [← xor63 (by omega), Nat.xor_assoc, Nat.xor_self, Nat.xor_zero, lN_ti (by omega), if_pos (by omega), xor63 (by omega)]; omega
theorem ultL {a b : Nat} (ha : a < 2 ^ 64) (hb : b < 2 ^ 64) : ((lN b ^^^ (-9223372036854775808)) ≤ (lN a ^^^ (-9223372036854775808))) ↔ b ≤ a := by
  rw [Int64.le_iff_toInt_le, xorS ha, xorS hb]; omega
/-! ===== Int64 masks of n low bits ===== -/
theorem cr_bits (W U M : BitVec 64) : ((W &&& U) &&& (U &&& (M ^^^ BitVec.allOnes 64))) = 0#64 ↔ (W &&& U) &&& M = W &&& U := by
  constructor
  · intro h
    apply BitVec.eq_of_getLsbD_eq
    intro i hi
    have e := congrArg (fun x => BitVec.getLsbD x i) h
    simp only [BitVec.getLsbD_and, BitVec.getLsbD_xor, BitVec.getLsbD_allOnes, BitVec.getLsbD_zero, hi, decide_true] at e ⊢
    revert e
    cases W.getLsbD i <;> cases U.getLsbD i <;> cases M.getLsbD i <;> decide
  · intro h
    apply BitVec.eq_of_getLsbD_eq
    intro i hi
    have e := congrArg (fun x => BitVec.getLsbD x i) h
    simp only [BitVec.getLsbD_and, BitVec.getLsbD_xor, BitVec.getLsbD_allOnes, BitVec.getLsbD_zero, hi, decide_true] at e ⊢
    revert e
    cases W.getLsbD i <;> cases U.getLsbD i <;> cases M.getLsbD i <;> decide
theorem cr_mask (w U m : Int64) (n : Nat) (hm : m.toBitVec.toNat = 2 ^ n - 1) : ((w &&& U) &&& (U &&& (m ^^^ (-1)))) = 0 ↔ (w &&& U).toBitVec.toNat < 2 ^ n := by
  have e0 : (-1 : Int64).toBitVec = BitVec.allOnes 64 := by decide
  have z0 : (0 : Int64).toBitVec = 0#64 := by decide
  rw [← Int64.toBitVec_inj, z0, Int64.toBitVec_and, Int64.toBitVec_and, Int64.toBitVec_and, Int64.toBitVec_xor, e0, cr_bits]
  generalize w.toBitVec &&& U.toBitVec = T
  rw [← BitVec.toNat_inj, BitVec.toNat_and, hm, Nat.and_two_pow_sub_one_eq_mod]
  constructor
  · intro h
    have t := Nat.mod_lt T.toNat (Nat.two_pow_pos n)
    rw [h] at t
    exact t
  · exact Nat.mod_eq_of_lt
theorem cr_shr (t : Int64) (x : UInt64) (n : Nat) (hx : x.toNat % 64 = n) : (t.toUInt64 >>> x).toInt64 = 0 ↔ t.toBitVec.toNat < 2 ^ n := by
  rw [← Int64.toBitVec_inj, ← BitVec.toNat_inj]
  show (t.toUInt64 >>> x).toNat = 0 ↔ t.toUInt64.toNat < 2 ^ n
  rw [UInt64.toNat_shiftRight, hx, Nat.shiftRight_eq_div_pow]
  constructor
  · intro h
    have d : t.toUInt64.toNat / 2 ^ n < 1 := by
      rw [h]
      decide
    have e := (Nat.div_lt_iff_lt_mul (Nat.two_pow_pos n)).mp d
    rw [Nat.one_mul] at e
    exact e
  · exact Nat.div_eq_of_lt
theorem cr_amt (s : Int64) : ∃ n, n < 64 ∧ s &&& 63 = lN n ∧ (s.toUInt64 &&& Int64.toUInt64 63).toNat % 64 = n := by
  have e : (s.toUInt64 &&& Int64.toUInt64 63).toNat = s.toUInt64.toNat % 2 ^ 6 := by
    rw [UInt64.toNat_and, show (Int64.toUInt64 63).toNat = 2 ^ 6 - 1 from by decide, Nat.and_two_pow_sub_one_eq_mod]
  refine ⟨s.toUInt64.toNat % 2 ^ 6, by omega, ?_, by omega⟩
  rw [← Int64.toBitVec_inj, ← BitVec.toNat_inj]
  show (s.toUInt64 &&& Int64.toUInt64 63).toNat = (BitVec.ofNat 64 (s.toUInt64.toNat % 2 ^ 6)).toNat
  rw [e, BitVec.toNat_ofNat]
  omega
end
section
section RUL
variable {l : Launch} {I : pm_I} {M : pm_M} {d mc ms n : Nat} {O : pm_O → List pm_E → Prop} {cells slots : Nat}
/-- a stretch, with the goal behind it a variable (so that it computes no further) -/
theorem pm_J.run (stops : List Nat) (k : Nat) {C : pm_C} (h : ∀ K : pm_C → Prop, (∀ C', pm_J l M I d mc ms n O cells slots C' → K C') → pm_wp I stops K k C) : pm_J l M I d mc ms n O cells slots C := pm_J.go stops k (h _ (fun _ z => z))
/-- it returns v and leaves w -/
abbrev isO (v : Option Value) (w : List pm_E) : pm_O → List pm_E → Prop := fun o w' => o = .inl v ∧ w' = w
abbrev isI (x : Int32) (w : List pm_E) : pm_O → List pm_E → Prop := isO (some (.int x)) w
/-- a counter that goes up -/
theorem pm_up {P : Nat → Prop} {b : Nat} (a : Nat) (hab : a ≤ b) (hend : P b) (hstep : ∀ i, a ≤ i → i < b → P (i + 1) → P i) : P a := by
  have key : ∀ j i, a ≤ i → i + j = b → P i := by
    intro j
    induction j with
    | zero => intro i _ h; rw [show i = b by omega]; exact hend
    | succ j ih => intro i h1 h2; exact hstep i h1 (by omega) (ih (i + 1) (by omega) (by omega))
  exact key (b - a) a (Nat.le_refl _) (by omega)
theorem pm_J.ri {pc : Nat} {L : List (Option Value)} {w : List pm_E} {v : Int32} {ty : FieldType} (hO : O (.inl (some (.int v))) w) (hd : pm_find I.1 pc = some (.ireturn, 1) := by rfl) (hr : M.2.2.2.1 = some ty := by rfl) (hn : narrow ty (.int v) = .int v := by rfl) (hl : w.length = n := by rfl) : pm_J l M I d mc ms n O 0 0 (pc, L, [.int v], w) := pm_J.ret hd hr hn hl (Nat.zero_le _) (Nat.zero_le _) hO
theorem pm_J.rv {pc : Nat} {L : List (Option Value)} {w : List pm_E} (hO : O (.inl none) w) (hd : pm_find I.1 pc = some (.return_, 1) := by rfl) (hr : M.2.2.2.1 = none := by rfl) (hl : w.length = n := by rfl) : pm_J l M I d mc ms n O 0 0 (pc, L, [], w) := pm_J.retv hd hr hl (Nat.zero_le _) (Nat.zero_le _) hO
theorem pm_J.rl {pc : Nat} {L : List (Option Value)} {w : List pm_E} {v : Int64} (hO : O (.inl (some (.long v))) w) (hd : pm_find I.1 pc = some (.lreturn, 1) := by rfl) (hr : M.2.2.2.1 = some .long := by rfl) (hl : w.length = n := by rfl) : pm_J l M I d mc ms n O 0 0 (pc, L, [.long v], w) := pm_J.retl hd hr hl (Nat.zero_le _) (Nat.zero_le _) hO
theorem pm_J.rf {pc : Nat} {L : List (Option Value)} {w : List pm_E} {v : UInt32} (hO : O (.inl (some (.float v))) w) (hd : pm_find I.1 pc = some (.freturn, 1) := by rfl) (hr : M.2.2.2.1 = some .float := by rfl) (hl : w.length = n := by rfl) : pm_J l M I d mc ms n O 0 0 (pc, L, [.float v], w) := pm_J.retf hd hr hl (Nat.zero_le _) (Nat.zero_le _) hO
/-- a call of a method that returns v and leaves w1 -/
theorem pm_J.cl {pc ix ci k0 d' : Nat} {L : List (Option Value)} {st rest As : List Value} {w wc w1 : List pm_E} {M' : pm_M} {fs : List Value} {qc : vw_C} {v : Option Value} (q : List Nat)
    (hM : pm_Met l M' d' 0 0 (.ref k0 :: As) wc (isO v w1))
    (hw : ∀ x ∈ wsV M.2.2.2.2 ix qc.1 M'.1 [Cond.code M'.1 M'.2.1 M'.2.2.1 M'.2.2.2.1], x ∈ pm_tb)
    (hy : M'.1.cls = qc.1 ∧ M'.1.cls ≠ "java/lang/invoke/MethodHandle" ∧ M'.1.cls ≠ "java/lang/invoke/VarHandle" ∧ (parseMethodDescriptor M'.1.desc).map (fun d => d.parameters.length) = some As.length)
    (kr : pm_J l M I d mc ms n O 0 0 (pc + 3, L, (v.map (pm_v (pm_rn q))).toList ++ rest, pm_bk (pm_rn q) w q w1))
    (hd : pm_find I.1 pc = some (.invokevirtual ix, 3) := by rfl) (hst : st = ((Value.ref k0 :: As).map (pm_v (pm_rn q))).reverse ++ rest := by rfl) (hf1 : va_nd q = true := by rfl) (hf2 : q.map (fun h => pm_nth w h) = wc.map (fun c => some (pm_rc (pm_rn q) c)) := by rfl) (hn : w.length = n := by rfl) (hr : wc[k0]? = some (.inr (ci, fs)) := by rfl) (hqc : vwCl[ci]? = some qc := by rfl)
    (hrest : Nat.ble (rest.map Value.category).sum 8 = true := by rfl) (hdd : Nat.ble (d' + 1) d = true := by rfl) (hml : Nat.ble M'.2.2.1 81 = true := by rfl) : pm_J l M I d mc ms n O 0 0 (pc, L, st, w) :=
  pm_J.call q hM hd hw hy hst ⟨hf1, hf2⟩ hn hr hqc (Nat.le_of_ble_eq_true hrest) (Nat.le_of_ble_eq_true hdd) (Nat.le_of_ble_eq_true hml) (Nat.zero_le _) (Nat.zero_le _) (fun E w1 h _ => by cases h.1) (fun v' w1' h _ => by obtain ⟨h1, h2⟩ := h; cases h1; subst h2; exact kr)
theorem pm_J.cls {pc ix d' : Nat} {L : List (Option Value)} {st rest As : List Value} {w wc w1 : List pm_E} {M' : pm_M} {v : Option Value} (q : List Nat)
    (hM : pm_Met l M' d' 0 0 As wc (isO v w1))
    (hw : ∀ x ∈ [Cond.methodLink M.2.2.2.2 ix M'.1, Cond.static M'.1, Cond.initialized M'.1.cls, Cond.code M'.1 M'.2.1 M'.2.2.1 M'.2.2.2.1], x ∈ pm_tb)
    (hy : M'.1.cls ≠ "java/lang/invoke/MethodHandle" ∧ M'.1.cls ≠ "java/lang/invoke/VarHandle" ∧ (parseMethodDescriptor M'.1.desc).map (fun d => d.parameters.length) = some As.length)
    (kr : pm_J l M I d mc ms n O 0 0 (pc + 3, L, (v.map (pm_v (pm_rn q))).toList ++ rest, pm_bk (pm_rn q) w q w1))
    (hd : pm_find I.1 pc = some (.invokestatic ix, 3) := by rfl) (hst : st = (As.map (pm_v (pm_rn q))).reverse ++ rest := by rfl) (hf1 : va_nd q = true := by rfl) (hf2 : q.map (fun h => pm_nth w h) = wc.map (fun c => some (pm_rc (pm_rn q) c)) := by rfl) (hn : w.length = n := by rfl)
    (hrest : Nat.ble (rest.map Value.category).sum 8 = true := by rfl) (hdd : Nat.ble (d' + 1) d = true := by rfl) (hml : Nat.ble M'.2.2.1 81 = true := by rfl) : pm_J l M I d mc ms n O 0 0 (pc, L, st, w) :=
  pm_J.calls q hM hd hw hy hst ⟨hf1, hf2⟩ hn (Nat.le_of_ble_eq_true hrest) (Nat.le_of_ble_eq_true hdd) (Nat.le_of_ble_eq_true hml) (Nat.zero_le _) (Nat.zero_le _) (fun E w1 h _ => by cases h.1) (fun v' w1' h _ => by obtain ⟨h1, h2⟩ := h; cases h1; subst h2; exact kr)
theorem pm_Met.mk {As : List Value} {w : List pm_E} (hI : pm_Ib M I = true) (hst : l.stackTraces = false) (hj : pm_J l M I d mc ms w.length O 0 0 (0, pm_ent M.2.2.1 As, [], w)) (hy : plainName M.1.cls = true := by decide) (ho : M.1.cls = M.2.2.2.2 := by rfl) (hA : Nat.ble (As.map Value.category).sum M.2.2.1 = true := by rfl) : pm_Met l M d mc ms As w O := pm_Met.of hI hy ho hst (Nat.le_of_ble_eq_true hA) hj
/-- whole numbers in a row -/
abbrev nA (f : Nat → Nat) : Nat → Int32 := fun j => nI (f j)
def upN (f : Nat → Nat) (k v : Nat) : Nat → Nat := fun j => if j = k then v else f j
theorem nA_upd (f : Nat → Nat) (k v : Nat) : upd (nA f) k (nI v) = nA (upN f k v) := by
  funext j
  by_cases h : j = k
  · subst h; rw [pk_us]; show nI v = nI (upN f j v j); simp [upN]
  · rw [pk_un h]; show nI (f j) = nI (upN f k v j); simp [upN, h]
theorem upN_s {f : Nat → Nat} {k v : Nat} : upN f k v k = v := by simp [upN]
theorem upN_n {f : Nat → Nat} {k v j : Nat} (h : j ≠ k) : upN f k v j = f j := by simp [upN, h]
def b2n (b : Bool) : Nat := if b then 1 else 0
theorem nI_z {a : Nat} (h : a < 2 ^ 31) : nI a = 0 ↔ a = 0 := by
  rw [← nI_0]
  exact nI_eq h (by decide)
end RUL
end
section
section TBL
variable {l : Launch}
def lane (x : Int64) (j : Nat) : Nat := x.toBitVec.toNat / 16 ^ j % 16
theorem lane_lt (x : Int64) (j : Nat) : lane x j < 16 := Nat.mod_lt _ (by decide)
theorem tb_bits {x : Int64} {j : Nat} (hj : j < 16) : (x.toUInt64 >>> ((nI 4 * nI j).toInt64.toUInt64 &&& Int64.toUInt64 63)).toInt64.toInt32 &&& nI 15 = nI (lane x j) := by
  obtain ⟨m, hm, rfl⟩ := wb_of x
  rw [pk_mul, wb_shr hm (by omega), lN_i, pk_and _ 4 (by decide +kernel)]
  unfold lane
  rw [wb_tn hm, show (nI (m / 2 ^ (4 * j))).toBitVec.toNat = m / 2 ^ (4 * j) % 2 ^ 32 from rfl, Nat.mod_mod_of_dvd _ (by decide), Nat.pow_mul]
/-- a table's cells: rows, weights, how many kinds and characters -/
abbrev tbW (r : Nat → Int64) (wt : Nat → Nat) (k c : Nat) : List pm_E := [.inr (2, [.ref 1, .ref 2, .int (nI k), .int (nI c)]), .inl (.long, 7, .inr (.inl r)), .inl (.int, 16, .inl (nA wt))]
theorem c_bitsOf (hs : l.stackTraces = false) (w : List pm_E) (x : Int64) (j : Nat) (hj : j < 16) : pm_Met l mX2_bitsOf 1 0 0 [.ref 0, .long x, .int (nI j)] w (isI (nI (lane x j)) w) := by
  refine pm_Met.mk kX2_bitsOf hs (pm_J.run [] 20 (fun K hK => hK _ ?_))
  exact pm_J.ri ⟨by rw [← tb_bits hj]; rfl, rfl⟩
theorem c_setOf (hs : l.stackTraces = false) (r : Nat → Int64) (wt : Nat → Nat) (k c a j : Nat) (ha : a < 7) (hj : j < 16) : pm_Met l mX2_setOf 2 0 0 [.ref 0, .int (nI a), .int (nI j)] (tbW r wt k c) (isI (nI (lane (r a) j)) (tbW r wt k c)) := by
  refine pm_Met.mk kX2_setOf hs (pm_J.run [] 20 (fun K hK => And.intro (vp_in_nI ha (by decide)) (hK _ ?_)))
  rw [nI_clamp (by omega)]
  exact pm_J.cl [0, 1, 2] (c_bitsOf hs (tbW r wt k c) (r a) j hj) gRX2_35 vX2_bitsOf (pm_J.ri ⟨rfl, rfl⟩)
theorem c_hasCharacter (hs : l.stackTraces = false) (r : Nat → Int64) (wt : Nat → Nat) (k c : Nat) (x : Int32) : pm_Met l mX2_hasCharacter 1 0 0 [.ref 0, .int x] (tbW r wt k c) (isI (if 0 ≤ x ∧ x < nI c then nI 1 else nI 0) (tbW r wt k c)) := by
  refine pm_Met.mk kX2_hasCharacter hs (pm_J.run [] 20 (fun K hK => And.intro (fun h => hK _ ?_) (fun h => And.intro (fun h2 => hK _ ?_) (fun h2 => hK _ ?_))))
  · exact pm_J.ri ⟨by rw [if_neg (fun z => absurd h (Int32.not_lt.mpr z.1))]; rfl, rfl⟩
  · exact pm_J.ri ⟨by rw [if_neg (fun z => absurd z.2 (Int32.not_lt.mpr h2))]; rfl, rfl⟩
  · exact pm_J.ri ⟨by rw [if_pos ⟨Int32.not_lt.mp h, Int32.not_le.mp h2⟩]; rfl, rfl⟩
def tprod : Nat → Nat
  | 0 => 1
  | i + 1 => if i < 3 then 1 else tprod i * (2 * i - 3)
def tcount (k : Nat) : Nat := if k < 3 then 0 else tprod k
theorem c_treeCount (hs : l.stackTraces = false) (r : Nat → Int64) (wt : Nat → Nat) (k c : Nat) (hk : k ≤ 7) : pm_Met l mX2_treeCount 1 0 0 [.ref 0] (tbW r wt k c) (isI (nI (tcount k)) (tbW r wt k c)) := by
  refine pm_Met.mk kX2_treeCount hs (pm_J.run [14] 20 (fun K hK => And.intro (fun h => hK _ ?_) (fun h => hK _ ?_)))
  · have h3 : 3 ≤ k := (nI_leI (a := 3) (b := k) (by omega) (by omega)).mp h
    refine pm_up (P := fun i => pm_J l mX2_treeCount iX2_treeCount 1 0 0 3 (isI (nI (tcount k)) (tbW r wt k c)) 0 0 (14, [some (.ref 0), some (.int (nI (tprod i))), some (.int (nI i))], [], tbW r wt k c)) 3 h3 ?_ (fun i h1 h2 ih => ?_)
    · refine pm_J.run [14] 40 (fun K hK => br_t (nI_le (Nat.le_refl _) (by omega)) (hK _ ?_))
      exact pm_J.ri ⟨by rw [tcount, if_neg (by omega)], rfl⟩
    · refine pm_J.run [14] 40 (fun K hK => br_f (nI_ge h2 (by omega)) (hK _ ?_))
      have e : nI (tprod (i + 1)) = nI (tprod i) * (nI 2 * nI i - nI 3) := by
        rw [pk_mul, pk_sub (by omega), pk_mul, tprod, if_neg (by omega)]
      have e2 : nI (i + 1) = nI i + nI 1 := (nI_add i 1).symm
      rw [e, e2] at ih
      exact ih
  · have h3 : ¬ 3 ≤ k := fun z => h ((nI_leI (a := 3) (b := k) (by omega) (by omega)).mpr z)
    exact pm_J.ri ⟨by rw [tcount, if_pos (by omega)]; rfl, rfl⟩
end TBL
end
section
section TB2
variable {l : Launch}
/-! the library's own: Arrays.fill, Integer.bitCount -/
theorem fillL_go (hs : l.stackTraces = false) (f : Nat → Int64) (N : Nat) (hN : N < 1000) (v : Int64) : pm_Met l mJ7_fill_d0a16 1 0 0 [.ref 0, .long v] [.inl (.long, N, .inr (.inl f))] (isO none [.inl (.long, N, .inr (.inl (fun j => if j < N then v else f j)))]) := by
  refine pm_Met.mk kJ7_fill_d0a16 hs (pm_J.run [6] 20 (fun K hK => hK _ ?_))
  have key : pm_J l mJ7_fill_d0a16 iJ7_fill_d0a16 1 0 0 1 (isO none [.inl (.long, N, .inr (.inl (fun j => if j < N then v else f j)))]) 0 0 (6, [some (.ref 0), some (.long v), none, some (.int (nI 0)), some (.int (nI N))], [], [.inl (.long, N, .inr (.inl (fun j => if j < 0 then v else f j)))]) := by
    refine pm_up (b := N) (P := fun i => pm_J l mJ7_fill_d0a16 iJ7_fill_d0a16 1 0 0 1 (isO none [.inl (.long, N, .inr (.inl (fun j => if j < N then v else f j)))]) 0 0 (6, [some (.ref 0), some (.long v), none, some (.int (nI i)), some (.int (nI N))], [], [.inl (.long, N, .inr (.inl (fun j => if j < i then v else f j)))])) 0 (Nat.zero_le _) ?_ (fun i h1 h2 ih => ?_)
    · refine pm_J.run [6] 40 (fun K hK => br_t (nI_le (Nat.le_refl _) (by omega)) (hK _ ?_))
      exact pm_J.rv ⟨rfl, rfl⟩
    · refine pm_J.run [6] 40 (fun K hK => br_f (nI_ge h2 (by omega)) (And.intro (vp_in_nI h2 (by omega)) (hK _ ?_)))
      have e : (fun j => if j < i + 1 then v else f j) = vp_updL (fun j => if j < i then v else f j) (nI i).toNatClampNeg v := by
        rw [nI_clamp (by omega)]
        funext j
        by_cases hj : j = i
        · subst hj; rw [pk_uLs, if_pos (by omega)]
        · rw [pk_uLn hj]
          by_cases h3 : j < i
          · rw [if_pos h3, if_pos (by omega)]
          · rw [if_neg h3, if_neg (by omega)]
      rw [e, ← nI_add i 1] at ih
      exact ih
  have e0 : (fun j => if j < 0 then v else f j) = f := by funext j; simp
  rw [e0] at key
  exact key
theorem fillI_go (hs : l.stackTraces = false) (f : Nat → Nat) (N : Nat) (hN : N < 1000) (v : Nat) : pm_Met l mJ7_fill_53178 1 0 0 [.ref 0, .int (nI v)] [.inl (.int, N, .inl (nA f))] (isO none [.inl (.int, N, .inl (nA (fun j => if j < N then v else f j)))]) := by
  refine pm_Met.mk kJ7_fill_53178 hs (pm_J.run [5] 20 (fun K hK => hK _ ?_))
  have key : pm_J l mJ7_fill_53178 iJ7_fill_53178 1 0 0 1 (isO none [.inl (.int, N, .inl (nA (fun j => if j < N then v else f j)))]) 0 0 (5, [some (.ref 0), some (.int (nI v)), some (.int (nI 0)), some (.int (nI N))], [], [.inl (.int, N, .inl (nA (fun j => if j < 0 then v else f j)))]) := by
    refine pm_up (b := N) (P := fun i => pm_J l mJ7_fill_53178 iJ7_fill_53178 1 0 0 1 (isO none [.inl (.int, N, .inl (nA (fun j => if j < N then v else f j)))]) 0 0 (5, [some (.ref 0), some (.int (nI v)), some (.int (nI i)), some (.int (nI N))], [], [.inl (.int, N, .inl (nA (fun j => if j < i then v else f j)))])) 0 (Nat.zero_le _) ?_ (fun i h1 h2 ih => ?_)
    · refine pm_J.run [5] 40 (fun K hK => br_t (nI_le (Nat.le_refl _) (by omega)) (hK _ ?_))
      exact pm_J.rv ⟨rfl, rfl⟩
    · refine pm_J.run [5] 40 (fun K hK => br_f (nI_ge h2 (by omega)) (And.intro (vp_in_nI h2 (by omega)) (hK _ ?_)))
      have e : nA (fun j => if j < i + 1 then v else f j) = upd (nA (fun j => if j < i then v else f j)) (nI i).toNatClampNeg (nI v) := by
        rw [nI_clamp (by omega), nA_upd]
        congr 1
        funext j
        by_cases hj : j = i
        · subst hj; rw [upN_s, if_pos (by omega)]
        · rw [upN_n hj]
          by_cases h3 : j < i
          · rw [if_pos h3, if_pos (by omega)]
          · rw [if_neg h3, if_neg (by omega)]
      rw [e, ← nI_add i 1] at ih
      exact ih
  have e0 : (fun j => if j < 0 then v else f j) = f := by funext j; simp
  rw [e0] at key
  exact key
def popc (s : Nat) : Nat := s % 2 + s / 2 % 2 + s / 4 % 2 + s / 8 % 2
set_option maxRecDepth 10000 in
theorem c_bitCount (hs : l.stackTraces = false) (w : List pm_E) (s : Nat) (h : s < 16) : pm_Met l mJ6_bitCount_0f7a4 1 0 0 [.int (nI s)] w (isI (nI (popc s)) w) := by
  refine pm_Met.mk kJ6_bitCount_0f7a4 hs (pm_J.run [] 60 (fun K hK => hK _ ?_))
  refine pm_J.ri ⟨?_, rfl⟩
  congr 3
  clear hK
  revert s
  decide +kernel
/-! Table -/
theorem c_clear (hs : l.stackTraces = false) (r : Nat → Int64) (wt : Nat → Nat) (k c : Nat) : pm_Met l mX2_clear 2 0 0 [.ref 0] (tbW r wt k c) (isO none (tbW (fun j => if j < 7 then 0 else r j) (fun j => if j < 16 then 1 else wt j) 0 0)) := by
  refine pm_Met.mk kX2_clear hs (pm_J.run [] 20 (fun K hK => hK _ ?_))
  refine pm_J.cls [1] (fillL_go hs r 7 (by decide) (lN 0)) gRX2_26 vJ7_fill_d0a16 ?_
  refine pm_J.run [] 20 (fun K hK => hK _ ?_)
  refine pm_J.cls [2] (fillI_go hs wt 16 (by decide) 1) gRX2_32 vJ7_fill_53178 ?_
  exact pm_J.rv ⟨rfl, rfl⟩
theorem c_put (hs : l.stackTraces = false) (r : Nat → Int64) (wt : Nat → Nat) (k c a j s : Nat) (ha : a < 7) (hj : j < 16) (hsv : s < 16) : pm_Met l mX2_put 1 0 0 [.ref 0, .int (nI a), .int (nI j), .int (nI s)] (tbW r wt k c) (isO none (tbW (vp_updL r a (r a ||| lN (s * 16 ^ j))) wt k c)) := by
  refine pm_Met.mk kX2_put hs (pm_J.run [] 20 (fun K hK => And.intro (vp_in_nI ha (by decide)) (And.intro (vp_in_nI ha (by decide)) (hK _ ?_))))
  refine pm_J.rv ⟨rfl, ?_⟩
  have e : (nI s).toInt64 <<< ((nI 4 * nI j).toInt64 &&& 63) = lN (s * 16 ^ j) := by
    rw [nI_l (by omega), pk_mul, wb_shl _ (by omega), Nat.pow_mul]
  rw [← e]
  have e2 : (nI a).toNatClampNeg = a := nI_clamp (by omega)
  have : tbW (vp_updL r a (r a ||| (nI s).toInt64 <<< ((nI 4 * nI j).toInt64 &&& 63))) wt k c = tbW (vp_updL r (nI a).toNatClampNeg (r (nI a).toNatClampNeg ||| (nI s).toInt64 <<< ((nI 4 * nI j).toInt64 &&& 63))) wt k c := by rw [e2]
  rw [this]
  rfl
def wsum (x : Int64) (wt : Nat → Nat) : Nat → Nat
  | 0 => 0
  | c + 1 => wsum x wt c + lane x c * wt c
theorem c_weighed (hs : l.stackTraces = false) (r : Nat → Int64) (wt : Nat → Nat) (k c : Nat) (hc : c ≤ 16) (x : Int64) : pm_Met l mX2_weighed 2 0 0 [.ref 0, .long x] (tbW r wt k c) (isI (nI (wsum x wt c)) (tbW r wt k c)) := by
  refine pm_Met.mk kX2_weighed hs (pm_J.run [5] 20 (fun K hK => hK _ ?_))
  refine pm_up (b := c) (P := fun i => pm_J l mX2_weighed iX2_weighed 2 0 0 3 (isI (nI (wsum x wt c)) (tbW r wt k c)) 0 0 (5, [some (.ref 0), some (.long x), none, some (.int (nI (wsum x wt i))), some (.int (nI i))], [], tbW r wt k c)) 0 (Nat.zero_le _) ?_ (fun i h1 h2 ih => ?_)
  · refine pm_J.run [5] 40 (fun K hK => br_t (nI_le (Nat.le_refl _) (by omega)) (hK _ ?_))
    exact pm_J.ri ⟨rfl, rfl⟩
  · refine pm_J.run [5] 40 (fun K hK => br_f (nI_ge h2 (by omega)) (hK _ ?_))
    refine pm_J.cl [0, 1, 2] (c_bitsOf hs (tbW r wt k c) x i (by omega)) gRX2_35 vX2_bitsOf ?_
    refine pm_J.run [5] 40 (fun K hK => And.intro (vp_in_nI (by omega) (by decide)) (hK _ ?_))
    have e : nI (wsum x wt (i + 1)) = nI (wsum x wt i) + nI (lane x i) * nI (wt (nI i).toNatClampNeg) := by
      rw [nI_clamp (by omega), pk_mul, nI_add]; rfl
    rw [e, ← nI_add i 1] at ih
    exact ih
def meets (r : Nat → Int64) (j s : Nat) : Nat → Bool
  | 0 => true
  | k + 1 => meets r j s k && ((lane (r k) j &&& s) != 0)
theorem meets_no {r : Nat → Int64} {j s i : Nat} (h : (lane (r i) j &&& s) = 0) : ∀ k, i < k → meets r j s k = false
  | 0, hk => by omega
  | k + 1, hk => by
    unfold meets
    rcases Nat.lt_or_ge i k with h1 | h1
    · rw [meets_no h k h1]; rfl
    · have : i = k := by omega
      subst this
      simp [h]
theorem c_meets (hs : l.stackTraces = false) (r : Nat → Int64) (wt : Nat → Nat) (k c j s : Nat) (hk : k ≤ 7) (hj : j < 16) (hsv : s < 16) : pm_Met l mX2_meetsEveryKind 3 0 0 [.ref 0, .int (nI s), .int (nI j)] (tbW r wt k c) (isI (nI (b2n (meets r j s k))) (tbW r wt k c)) := by
  refine pm_Met.mk kX2_meetsEveryKind hs (pm_J.run [2] 20 (fun K hK => hK _ ?_))
  have key : meets r j s 0 = true → pm_J l mX2_meetsEveryKind iX2_meetsEveryKind 3 0 0 3 (isI (nI (b2n (meets r j s k))) (tbW r wt k c)) 0 0 (2, [some (.ref 0), some (.int (nI s)), some (.int (nI j)), some (.int (nI 0))], [], tbW r wt k c) := by
    refine pm_up (b := k) (P := fun i => meets r j s i = true → pm_J l mX2_meetsEveryKind iX2_meetsEveryKind 3 0 0 3 (isI (nI (b2n (meets r j s k))) (tbW r wt k c)) 0 0 (2, [some (.ref 0), some (.int (nI s)), some (.int (nI j)), some (.int (nI i))], [], tbW r wt k c)) 0 (Nat.zero_le _) (fun hm => ?_) (fun i h1 h2 ih hm => ?_)
    · refine pm_J.run [2] 40 (fun K hK => br_t (nI_le (Nat.le_refl _) (by omega)) (hK _ ?_))
      exact pm_J.ri ⟨by rw [hm]; rfl, rfl⟩
    · refine pm_J.run [2] 40 (fun K hK => br_f (nI_ge h2 (by omega)) (hK _ ?_))
      refine pm_J.cl [0, 1, 2] (c_setOf hs r wt k c i j (by omega) hj) gRX2_61 vX2_setOf ?_
      have hl := lane_lt (r i) j
      have hlt : lane (r i) j &&& s < 2 ^ 31 := Nat.lt_of_le_of_lt Nat.and_le_left (by omega)
      refine pm_J.run [2] 40 (fun K hK => And.intro (fun h => hK _ ?_) (fun h => hK _ ?_))
      · have h' : ¬ (nI (lane (r i) j) &&& nI s) = 0 := h
        rw [nx_and, nI_z hlt] at h'
        have := ih (by unfold meets; rw [hm]; simp [h'])
        rw [← nI_add i 1] at this
        exact this
      · have h' : ¬ ¬ (nI (lane (r i) j) &&& nI s) = 0 := h
        rw [nx_and, nI_z hlt] at h'
        exact pm_J.ri ⟨by rw [meets_no (Classical.not_not.mp h') k h2]; rfl, rfl⟩
  exact key rfl
end TB2
end
section
section TB3
variable {l : Launch}
theorem gmin_RX2_55 : ∀ z ∈ [Cond.methodLink RX2 55 Lib.Math.min.name, Cond.static Lib.Math.min.name, Cond.initialized "java/lang/Math", Cond.code Lib.Math.min.name Lib.Math.min.code 2 (some .int)], z ∈ pm_tb := by decide +kernel
theorem gmax_RX2_64 : ∀ z ∈ [Cond.methodLink RX2 64 Lib.Math.max.name, Cond.static Lib.Math.max.name, Cond.initialized "java/lang/Math", Cond.code Lib.Math.max.name Lib.Math.max.code 2 (some .int)], z ∈ pm_tb := by decide +kernel
theorem nI_min {a b : Nat} (ha : a < 2 ^ 31) (hb : b < 2 ^ 31) : (if nI b < nI a then nI b else nI a) = nI (min a b) := by
  by_cases h : b < a
  · rw [if_pos ((nI_ltI hb ha).mpr h), Nat.min_eq_right (by omega)]
  · rw [if_neg (fun z => h ((nI_ltI hb ha).mp z)), Nat.min_eq_left (by omega)]
theorem nI_max {a b : Nat} (ha : a < 2 ^ 31) (hb : b < 2 ^ 31) : (if nI a < nI b then nI b else nI a) = nI (max a b) := by
  by_cases h : a < b
  · rw [if_pos ((nI_ltI ha hb).mpr h), Nat.max_eq_right (by omega)]
  · rw [if_neg (fun z => h ((nI_ltI ha hb).mp z)), Nat.max_eq_left (by omega)]
def fewS (r : Nat → Int64) (j k : Nat) : Nat → Nat
  | 0 => 4
  | s + 1 => if s = 0 then 4 else if meets r j s k then min (fewS r j k s) (popc s) else fewS r j k s
theorem fewS_le (r : Nat → Int64) (j k : Nat) : ∀ s, fewS r j k s ≤ 4
  | 0 => Nat.le_refl _
  | s + 1 => by
    have := fewS_le r j k s
    unfold fewS
    split
    · omega
    · split
      · exact Nat.le_trans (Nat.min_le_left _ _) this
      · exact this
theorem popc_pos {s : Nat} (h0 : 0 < s) (h : s < 16) : 0 < popc s := by
  have hq : ∀ s, s < 16 → 0 < s → 0 < popc s := by decide
  exact hq s h h0
theorem fewS_pos (r : Nat → Int64) (j k : Nat) : ∀ s, s ≤ 16 → 1 ≤ fewS r j k s
  | 0, _ => (by decide : 1 ≤ 4)
  | s + 1, h => by
    have := fewS_pos r j k s (by omega)
    unfold fewS
    split
    · omega
    · split
      · have := popc_pos (s := s) (by omega) (by omega)
        omega
      · exact this
theorem c_fewest (hs : l.stackTraces = false) (r : Nat → Int64) (wt : Nat → Nat) (k c j : Nat) (hk : k ≤ 7) (hj : j < 16) : pm_Met l mX2_fewestStates 4 0 0 [.ref 0, .int (nI j)] (tbW r wt k c) (isI (nI (fewS r j k 16)) (tbW r wt k c)) := by
  refine pm_Met.mk kX2_fewestStates hs (pm_J.run [4] 20 (fun K hK => hK _ ?_))
  refine pm_up (b := 16) (P := fun i => pm_J l mX2_fewestStates iX2_fewestStates 4 0 0 3 (isI (nI (fewS r j k 16)) (tbW r wt k c)) 0 0 (4, [some (.ref 0), some (.int (nI j)), some (.int (nI (fewS r j k i))), some (.int (nI i))], [], tbW r wt k c)) 1 (by decide) ?_ (fun i h1 h2 ih => ?_)
  · refine pm_J.run [4] 40 (fun K hK => br_t (nI_lt (a := 15) (b := 16) (by decide) (by decide)) (hK _ ?_))
    exact pm_J.ri ⟨rfl, rfl⟩
  · refine pm_J.run [4] 40 (fun K hK => br_f (nI_nlt (a := 15) (b := i) (by omega) (by decide)) (hK _ ?_))
    refine pm_J.cl [0, 1, 2] (c_meets hs r wt k c j i hk hj (by omega)) gRX2_46 vX2_meetsEveryKind ?_
    have ef : fewS r j k (i + 1) = if meets r j i k then min (fewS r j k i) (popc i) else fewS r j k i := by rw [fewS, if_neg (show ¬ i = 0 by omega)]
    rw [← nI_add i 1, ef] at ih
    have hf := fewS_le r j k i
    refine pm_J.run [4] 40 (fun K hK => And.intro (fun h => hK _ ?_) (fun h => hK _ ?_))
    · have h' : nI (b2n (meets r j i k)) = 0 := h
      cases hm : meets r j i k with
      | true => rw [hm] at h'; exact absurd h' (by decide)
      | false =>
        rw [hm, if_neg (by decide)] at ih
        exact ih
    · have h' : ¬ nI (b2n (meets r j i k)) = 0 := h
      cases hm : meets r j i k with
      | false => rw [hm] at h'; exact absurd (by decide) h'
      | true =>
        rw [hm, if_pos rfl] at ih
        refine pm_J.cls [] (c_bitCount hs [] i (by omega)) gRX2_50 vJ6_bitCount_0f7a4 ?_
        have hp : popc i < 2 ^ 31 := by unfold popc; omega
        refine pm_J.mmin rfl gmin_RX2_55 (Nat.le_of_ble_eq_true rfl) (by decide) (by decide) (by decide) ?_
        rw [nI_min (by omega) hp]
        refine pm_J.run [4] 40 (fun K hK => hK _ ?_)
        exact ih
def alike (r : Nat → Int64) (j st : Nat) : Nat → Nat
  | 0 => 0
  | a + 1 => alike r j st a + lane (r a) j / 2 ^ st % 2
theorem alike_le (r : Nat → Int64) (j st : Nat) : ∀ a, alike r j st a ≤ a
  | 0 => Nat.le_refl _
  | a + 1 => by have := alike_le r j st a; unfold alike; omega
def mostA (r : Nat → Int64) (j k : Nat) : Nat → Nat
  | 0 => 0
  | st + 1 => max (mostA r j k st) (alike r j st k)
theorem mostA_le (r : Nat → Int64) (j k : Nat) : ∀ st, mostA r j k st ≤ k
  | 0 => Nat.zero_le _
  | st + 1 => by have := mostA_le r j k st; have := alike_le r j st k; unfold mostA; omega
theorem bit_at {x st : Nat} (hx : x < 16) (hst : st < 4) : (nI x >>> (nI st &&& 31)) &&& nI 1 = nI (x / 2 ^ st % 2) := by
  rw [pk_shrN (by omega) _ st (s_l st (by omega)), pk_andN (Nat.lt_of_le_of_lt (Nat.div_le_self _ _) (by omega)) 1 (by decide +kernel)]
theorem c_mostAlike (hs : l.stackTraces = false) (r : Nat → Int64) (wt : Nat → Nat) (k c j : Nat) (hk : k ≤ 7) (hj : j < 16) : pm_Met l mX2_mostAlike 3 0 0 [.ref 0, .int (nI j)] (tbW r wt k c) (isI (nI (mostA r j k 4)) (tbW r wt k c)) := by
  refine pm_Met.mk kX2_mostAlike hs (pm_J.run [4] 20 (fun K hK => hK _ ?_))
  have key : ∀ x4 x5 : Option Value, pm_J l mX2_mostAlike iX2_mostAlike 3 0 0 3 (isI (nI (mostA r j k 4)) (tbW r wt k c)) 0 0 (4, [some (.ref 0), some (.int (nI j)), some (.int (nI (mostA r j k 0))), some (.int (nI 0)), x4, x5], [], tbW r wt k c) := by
    refine pm_up (b := 4) (P := fun st => ∀ x4 x5 : Option Value, pm_J l mX2_mostAlike iX2_mostAlike 3 0 0 3 (isI (nI (mostA r j k 4)) (tbW r wt k c)) 0 0 (4, [some (.ref 0), some (.int (nI j)), some (.int (nI (mostA r j k st))), some (.int (nI st)), x4, x5], [], tbW r wt k c)) 0 (by decide) (fun x4 x5 => ?_) (fun st h1 h2 ih x4 x5 => ?_)
    · refine pm_J.run [4] 40 (fun K hK => br_t (nI_le (a := 4) (b := 4) (by decide) (by decide)) (hK _ ?_))
      exact pm_J.ri ⟨rfl, rfl⟩
    · refine pm_J.run [15] 40 (fun K hK => br_f (nI_ge (a := st) (b := 4) h2 (by decide)) ?_)
      have inner : pm_J l mX2_mostAlike iX2_mostAlike 3 0 0 3 (isI (nI (mostA r j k 4)) (tbW r wt k c)) 0 0 (15, [some (.ref 0), some (.int (nI j)), some (.int (nI (mostA r j k st))), some (.int (nI st)), some (.int (nI (alike r j st 0))), some (.int (nI 0))], [], tbW r wt k c) := by
        refine pm_up (b := k) (P := fun a => pm_J l mX2_mostAlike iX2_mostAlike 3 0 0 3 (isI (nI (mostA r j k 4)) (tbW r wt k c)) 0 0 (15, [some (.ref 0), some (.int (nI j)), some (.int (nI (mostA r j k st))), some (.int (nI st)), some (.int (nI (alike r j st a))), some (.int (nI a))], [], tbW r wt k c)) 0 (Nat.zero_le _) ?_ (fun a g1 g2 ih2 => ?_)
        · have ha := alike_le r j st k
          have hm := mostA_le r j k st
          refine pm_J.run [15, 4] 40 (fun K hK => br_t (nI_le (Nat.le_refl _) (by omega)) (hK _ ?_))
          refine pm_J.mmax rfl gmax_RX2_64 (Nat.le_of_ble_eq_true rfl) (by decide) (by decide) (by decide) ?_
          rw [nI_max (by omega) (by omega)]
          refine pm_J.run [4] 40 (fun K hK => hK _ ?_)
          have := ih (some (.int (nI (alike r j st k)))) (some (.int (nI k)))
          rw [← nI_add st 1] at this
          exact this
        · refine pm_J.run [15] 40 (fun K hK => br_f (nI_ge g2 (by omega)) (hK _ ?_))
          refine pm_J.cl [0, 1, 2] (c_setOf hs r wt k c a j (by omega) hj) gRX2_61 vX2_setOf ?_
          refine pm_J.run [15] 40 (fun K hK => hK _ ?_)
          have e : nI (alike r j st (a + 1)) = nI (alike r j st a) + ((nI (lane (r a) j) >>> (nI st &&& 31)) &&& nI 1) := by
            rw [bit_at (lane_lt _ _) h2, nI_add]; rfl
          rw [e, ← nI_add a 1] at ih2
          exact ih2
      exact hK _ inner
  exact key none none
def leastS (r : Nat → Int64) (wt : Nat → Nat) (k : Nat) : Nat → Nat
  | 0 => 0
  | j + 1 => leastS r wt k j + (fewS r j k 16 - 1) * wt j
def mostS (r : Nat → Int64) (wt : Nat → Nat) (k : Nat) : Nat → Nat
  | 0 => 0
  | j + 1 => mostS r wt k j + (k - mostA r j k 4) * wt j
theorem c_least (hs : l.stackTraces = false) (r : Nat → Int64) (wt : Nat → Nat) (k c : Nat) (hk : k ≤ 7) (hc : c ≤ 16) : pm_Met l mX2_least 5 0 0 [.ref 0] (tbW r wt k c) (isI (nI (leastS r wt k c)) (tbW r wt k c)) := by
  refine pm_Met.mk kX2_least hs (pm_J.run [4] 20 (fun K hK => hK _ ?_))
  refine pm_up (b := c) (P := fun j => pm_J l mX2_least iX2_least 5 0 0 3 (isI (nI (leastS r wt k c)) (tbW r wt k c)) 0 0 (4, [some (.ref 0), some (.int (nI (leastS r wt k j))), some (.int (nI j))], [], tbW r wt k c)) 0 (Nat.zero_le _) ?_ (fun j h1 h2 ih => ?_)
  · refine pm_J.run [4] 40 (fun K hK => br_t (nI_le (Nat.le_refl _) (by omega)) (hK _ ?_))
    exact pm_J.ri ⟨rfl, rfl⟩
  · refine pm_J.run [4] 40 (fun K hK => br_f (nI_ge h2 (by omega)) (hK _ ?_))
    refine pm_J.cl [0, 1, 2] (c_fewest hs r wt k c j hk (by omega)) gRX2_39 vX2_fewestStates ?_
    refine pm_J.run [4] 40 (fun K hK => And.intro (vp_in_nI (by omega) (by decide)) (hK _ ?_))
    have e : nI (leastS r wt k (j + 1)) = nI (leastS r wt k j) + (nI (fewS r j k 16) - nI 1) * nI (wt (nI j).toNatClampNeg) := by
      rw [nI_clamp (by omega), pk_sub (fewS_pos r j k 16 (by decide)), pk_mul, nI_add]; rfl
    rw [e, ← nI_add j 1] at ih
    exact ih
theorem c_most (hs : l.stackTraces = false) (r : Nat → Int64) (wt : Nat → Nat) (k c : Nat) (hk : k ≤ 7) (hc : c ≤ 16) : pm_Met l mX2_most 4 0 0 [.ref 0] (tbW r wt k c) (isI (nI (mostS r wt k c)) (tbW r wt k c)) := by
  refine pm_Met.mk kX2_most hs (pm_J.run [4] 20 (fun K hK => hK _ ?_))
  refine pm_up (b := c) (P := fun j => pm_J l mX2_most iX2_most 4 0 0 3 (isI (nI (mostS r wt k c)) (tbW r wt k c)) 0 0 (4, [some (.ref 0), some (.int (nI (mostS r wt k j))), some (.int (nI j))], [], tbW r wt k c)) 0 (Nat.zero_le _) ?_ (fun j h1 h2 ih => ?_)
  · refine pm_J.run [4] 40 (fun K hK => br_t (nI_le (Nat.le_refl _) (by omega)) (hK _ ?_))
    exact pm_J.ri ⟨rfl, rfl⟩
  · refine pm_J.run [4] 40 (fun K hK => br_f (nI_ge h2 (by omega)) (hK _ ?_))
    refine pm_J.cl [0, 1, 2] (c_mostAlike hs r wt k c j hk (by omega)) gRX2_43 vX2_mostAlike ?_
    refine pm_J.run [4] 40 (fun K hK => And.intro (vp_in_nI (by omega) (by decide)) (hK _ ?_))
    have e : nI (mostS r wt k (j + 1)) = nI (mostS r wt k j) + (nI k - nI (mostA r j k 4)) * nI (wt (nI j).toNatClampNeg) := by
      rw [nI_clamp (by omega), pk_sub (mostA_le r j k 4), pk_mul, nI_add]; rfl
    rw [e, ← nI_add j 1] at ih
    exact ih
end TB3
end
section
section TRE
variable {l : Launch}
theorem nx_or (a b : Nat) : nI a ||| nI b = nI (a ||| b) := by
  apply Int32.toBitVec_inj.mp
  apply BitVec.eq_of_toNat_eq
  simp [nI, Nat.or_mod_two_pow]
theorem nI_dn (n : Nat) : nI (n + 1) + pm_k (-1) = nI n := by
  rw [← nI_add n 1, Int32.add_assoc]
  have : nI 1 + pm_k (-1) = 0 := by decide +kernel
  rw [this, Int32.add_zero]
theorem nI_shl1 {k : Nat} (hk : k < 30) : nI 1 <<< (nI k &&& 31) = nI (2 ^ k) := by
  have h2 : 2 ^ k < 2 ^ 30 := Nat.pow_lt_pow_right (by decide) hk
  rw [pk_shlN _ k (s_l k (by omega)) (by omega), Nat.one_mul]
/-- a tree's cells -/
abbrev trW (ch on ot be : Nat → Int32) (se : Nat → Int64) (od : Nat → Int32) (inn : Int32) : List pm_E := [.inr (4, [.ref 1, .ref 2, .ref 3, .ref 4, .ref 5, .ref 6, .int inn]), .inl (.int, 7, .inl ch), .inl (.int, 14, .inl on), .inl (.int, 14, .inl ot), .inl (.int, 14, .inl be), .inl (.long, 14, .inr (.inl se)), .inl (.int, 7, .inl od)]
def Bd (f : Nat → Nat) : Prop := ∀ j, f j < 128
theorem Bd.up {f : Nat → Nat} (h : Bd f) {k v : Nat} (hv : v < 128) : Bd (upN f k v) := fun j => by
  unfold upN
  split
  · exact hv
  · exact h j
theorem nI_e128 {a b : Nat} (ha : a < 128) (hb : b < 128) : nI a = nI b ↔ a = b := nI_eq (by omega) (by omega)
def choF : Nat → Nat → (Nat → Nat) → (Nat → Nat)
  | 0, _, ch => ch
  | i + 1, rest, ch => if i < 3 then ch else choF i (rest / (2 * i - 3)) (upN ch i (rest % (2 * i - 3)))
theorem choF_s (i rest : Nat) (ch : Nat → Nat) : choF (i + 1) rest ch = if i < 3 then ch else choF i (rest / (2 * i - 3)) (upN ch i (rest % (2 * i - 3))) := rfl
theorem c_choose (hs : l.stackTraces = false) (ch on ot be : Nat → Nat) (se : Nat → Int64) (od : Nat → Nat) (inn : Int32) (x k : Nat) (hx : x < 2 ^ 31) (hk3 : 3 ≤ k) (hk : k ≤ 7) : pm_Met l mX4_choose 1 0 0 [.ref 0, .int (nI x), .int (nI k)] (trW (nA ch) (nA on) (nA ot) (nA be) se (nA od) inn) (isO none (trW (nA (choF k x ch)) (nA on) (nA ot) (nA be) se (nA od) inn)) := by
  refine pm_Met.mk kX4_choose hs (pm_J.run [7] 20 (fun K hK => hK _ ?_))
  have key : ∀ i, 2 ≤ i → i < 7 → ∀ rest c0 x5, rest < 2 ^ 31 → choF (i + 1) rest c0 = choF k x ch → pm_J l mX4_choose iX4_choose 1 0 0 7 (isO none (trW (nA (choF k x ch)) (nA on) (nA ot) (nA be) se (nA od) inn)) 0 0 (7, [some (.ref 0), some (.int (nI x)), some (.int (nI k)), some (.int (nI rest)), some (.int (nI i)), x5], [], trW (nA c0) (nA on) (nA ot) (nA be) se (nA od) inn) := by
    intro i
    induction i with
    | zero => intro h; omega
    | succ i ih =>
      intro h1 h2 rest c0 x5 hr he
      rw [choF_s] at he
      by_cases h3 : i + 1 < 3
      · rw [if_pos h3] at he
        subst he
        refine pm_J.run [7] 40 (fun K hK => br_t (nI_lt (a := i + 1) (b := 3) h3 (by decide)) (hK _ ?_))
        exact pm_J.rv ⟨rfl, rfl⟩
      · rw [if_neg h3] at he
        have e1 : nI 2 * nI (i + 1) - nI 3 = nI (2 * (i + 1) - 3) := by rw [pk_mul, pk_sub (by omega)]
        have hpos : 0 < 2 * (i + 1) - 3 := by omega
        have hne : ¬ nI 2 * nI (i + 1) - nI 3 = 0 := by rw [e1]; exact nI_ne0 hpos (by omega)
        refine pm_J.run [7] 40 (fun K hK => br_f (nI_nlt (a := i + 1) (b := 3) (by omega) (by omega)) (And.intro hne (And.intro (vp_in_nI (by omega) (by decide)) (And.intro hne (hK _ ?_)))))
        have := ih (by omega) (by omega) _ _ (some (.int (nI 2 * nI (i + 1) - nI 3))) (Nat.lt_of_le_of_lt (Nat.div_le_self _ _) hr) he
        rw [← nA_upd, ← pk_rem hr hpos (by omega), ← pk_div hr hpos (by omega), ← nI_dn i, ← e1] at this
        rw [nI_clamp (by omega)]
        exact this
  have := key (k - 1) (by omega) (by omega) x ch none hx (by rw [show k - 1 + 1 = k by omega])
  rw [← pk_sub (a := k) (b := 1) (by omega)] at this
  exact this
end TRE
end
section
section TR2
variable {l : Launch}
def nodeF (ch : Nat → Nat) (k : Nat) : Nat := if ch k < k - 1 then ch k + 1 else 10 + ch k - k
theorem c_chosenNode (hs : l.stackTraces = false) (ch : Nat → Nat) (on ot be : Nat → Int32) (se : Nat → Int64) (od : Nat → Int32) (inn : Int32) (k : Nat) (hk2 : 2 ≤ k) (hk : k < 7) (hc : Bd ch) : pm_Met l mX4_chosenNode 1 0 0 [.ref 0, .int (nI k)] (trW (nA ch) on ot be se od inn) (isI (nI (nodeF ch k)) (trW (nA ch) on ot be se od inn)) := by
  have hck := hc k
  have ek : (nI k).toNatClampNeg = k := nI_clamp (by omega)
  refine pm_Met.mk kX4_chosenNode hs (pm_J.run [] 40 (fun K hK => And.intro (vp_in_nI (by omega) (by decide)) (And.intro (fun h => hK _ ?_) (fun h => hK _ ?_))))
  · have h1 : nI k - nI 1 ≤ nI (ch (nI k).toNatClampNeg) := h
    rw [pk_sub (by omega), ek, nI_leI (by omega) (by omega)] at h1
    refine pm_J.ri ⟨?_, rfl⟩
    rw [nodeF, if_neg (by omega)]
    show _ = Sum.inl (some (Value.int _))
    congr 3
    show nI 7 + nI (ch (nI k).toNatClampNeg) - nI k + nI 3 = _
    rw [ek, nI_add, pk_sub (by omega), nI_add]
    congr 1
    omega
  · have h1 : ¬ nI k - nI 1 ≤ nI (ch (nI k).toNatClampNeg) := h
    rw [pk_sub (by omega), ek, nI_leI (by omega) (by omega)] at h1
    refine pm_J.ri ⟨?_, rfl⟩
    rw [nodeF, if_pos (by omega)]
    show _ = Sum.inl (some (Value.int _))
    congr 3
    show nI (ch (nI k).toNatClampNeg) + nI 1 = _
    rw [ek, nI_add]
def mrO (on : Nat → Nat) (h nd fr : Nat) : Nat → Nat := if on h = nd then upN on h fr else on
def mrT (on ot : Nat → Nat) (h nd fr : Nat) : Nat → Nat := if on h = nd then ot else if ot h = nd then upN ot h fr else ot
def mrB (be : Nat → Nat) (h nd fr : Nat) : Nat → Nat := if be h &&& be nd = be nd then upN be h (be h ||| be (fr - 7)) else be
theorem or128 {a b : Nat} (ha : a < 128) (hb : b < 128) : a ||| b < 128 := Nat.or_lt_two_pow (n := 7) ha hb
theorem mrO_Bd {on : Nat → Nat} {h nd fr : Nat} (ho : Bd on) (hf : fr < 128) : Bd (mrO on h nd fr) := by
  unfold mrO; split
  · exact ho.up hf
  · exact ho
theorem mrT_Bd {on ot : Nat → Nat} {h nd fr : Nat} (ho : Bd ot) (hf : fr < 128) : Bd (mrT on ot h nd fr) := by
  unfold mrT; split
  · exact ho
  · split
    · exact ho.up hf
    · exact ho
theorem mrB_Bd {be : Nat → Nat} {h nd fr : Nat} (ho : Bd be) : Bd (mrB be h nd fr) := by
  unfold mrB; split
  · exact ho.up (or128 (ho _) (ho _))
  · exact ho
theorem c_makeRoom (hs : l.stackTraces = false) (ch : Nat → Int32) (on ot be : Nat → Nat) (se : Nat → Int64) (od : Nat → Int32) (inn : Int32) (h nd fr : Nat) (ho : Bd on) (ht : Bd ot) (hb : Bd be) (hh : h < 14) (hn : nd < 14) (hf7 : 7 ≤ fr) (hf : fr < 14) :
    pm_Met l mX4_makeRoom 1 0 0 [.ref 0, .int (nI h), .int (nI nd), .int (nI fr)] (trW ch (nA on) (nA ot) (nA be) se od inn) (isO none (trW ch (nA (mrO on h nd fr)) (nA (mrT on ot h nd fr)) (nA (mrB be h nd fr)) se od inn)) := by
  have eh : (nI h).toNatClampNeg = h := nI_clamp (by omega)
  have en : (nI nd).toNatClampNeg = nd := nI_clamp (by omega)
  have ef : (nI fr - nI 7).toNatClampNeg = fr - 7 := by rw [pk_sub hf7]; exact nI_clamp (by omega)
  have i1 : vp_in (nI h) 14 := vp_in_nI hh (by decide)
  have i2 : vp_in (nI nd) 14 := vp_in_nI hn (by decide)
  have i3 : vp_in (nI fr - nI 7) 14 := by rw [pk_sub hf7]; exact vp_in_nI (by omega) (by decide)
  have half : ∀ o2 t2 : Nat → Nat, mrO on h nd fr = o2 → mrT on ot h nd fr = t2 → pm_J l mX4_makeRoom iX4_makeRoom 1 0 0 7 (isO none (trW ch (nA (mrO on h nd fr)) (nA (mrT on ot h nd fr)) (nA (mrB be h nd fr)) se od inn)) 0 0 (37, [some (.ref 0), some (.int (nI h)), some (.int (nI nd)), some (.int (nI fr))], [], trW ch (nA o2) (nA t2) (nA be) se od inn) := by
    intro o2 t2 e1 e2
    rw [e1, e2]
    refine pm_J.run [] 40 (fun K hK => And.intro i1 (And.intro i2 (And.intro i2 (And.intro (fun q => hK _ ?_) (fun q => And.intro i1 (And.intro i3 (And.intro i1 (hK _ ?_))))))))
    · have q' : ¬ (nI (be (nI h).toNatClampNeg) &&& nI (be (nI nd).toNatClampNeg)) = nI (be (nI nd).toNatClampNeg) := q
      rw [eh, en, nx_and, nI_e128 (Nat.lt_of_le_of_lt Nat.and_le_left (hb h)) (hb nd)] at q'
      refine pm_J.rv ⟨rfl, ?_⟩
      rw [mrB, if_neg q']
    · have q' : ¬ ¬ (nI (be (nI h).toNatClampNeg) &&& nI (be (nI nd).toNatClampNeg)) = nI (be (nI nd).toNatClampNeg) := q
      rw [eh, en, nx_and, nI_e128 (Nat.lt_of_le_of_lt Nat.and_le_left (hb h)) (hb nd)] at q'
      refine pm_J.rv ⟨rfl, ?_⟩
      rw [mrB, if_pos (Classical.not_not.mp q'), ← nA_upd, ← nx_or]
      show trW ch (nA o2) (nA t2) (upd (nA be) (nI h).toNatClampNeg (nI (be (nI h).toNatClampNeg) ||| nI (be (nI fr - nI 7).toNatClampNeg))) se od inn = _
      rw [eh, ef]
  refine pm_Met.mk kX4_makeRoom hs (pm_J.run [37] 40 (fun K hK => And.intro i1 (And.intro (fun q => And.intro i1 (And.intro (fun q2 => hK _ ?_) (fun q2 => And.intro i1 (hK _ ?_)))) (fun q => And.intro i1 (hK _ ?_)))))
  · have q' : ¬ nI (on (nI h).toNatClampNeg) = nI nd := q
    have q2' : ¬ nI (ot (nI h).toNatClampNeg) = nI nd := q2
    rw [eh, nI_e128 (ho h) (by omega)] at q'
    rw [eh, nI_e128 (ht h) (by omega)] at q2'
    exact half on ot (by rw [mrO, if_neg q']) (by rw [mrT, if_neg q', if_neg q2'])
  · have q' : ¬ nI (on (nI h).toNatClampNeg) = nI nd := q
    have q2' : ¬ ¬ nI (ot (nI h).toNatClampNeg) = nI nd := q2
    rw [eh, nI_e128 (ho h) (by omega)] at q'
    rw [eh, nI_e128 (ht h) (by omega)] at q2'
    have := half on (upN ot h fr) (by rw [mrO, if_neg q']) (by rw [mrT, if_neg q', if_pos (Classical.not_not.mp q2')])
    rw [← nA_upd ot h fr] at this
    rw [eh]
    exact this
  · have q' : ¬ ¬ nI (on (nI h).toNatClampNeg) = nI nd := q
    rw [eh, nI_e128 (ho h) (by omega)] at q'
    have := half (upN on h fr) ot (by rw [mrO, if_pos (Classical.not_not.mp q')]) (by rw [mrT, if_pos (Classical.not_not.mp q')])
    rw [← nA_upd on h fr] at this
    rw [eh]
    exact this
end TR2
end
section
section TR3
variable {l : Launch}
abbrev trS : Type := (Nat → Nat) × (Nat → Nat) × (Nat → Nat)
def inS (od : Nat → Nat) (nd fr : Nat) (s0 : trS) : Nat → trS × Nat
  | 0 => (s0, 0)
  | i + 1 => if od i = nd then ((inS od nd fr s0 i).1, i + 1) else ((mrO (inS od nd fr s0 i).1.1 (od i) nd fr, mrT (inS od nd fr s0 i).1.1 (inS od nd fr s0 i).1.2.1 (od i) nd fr, mrB (inS od nd fr s0 i).1.2.2 (od i) nd fr), (inS od nd fr s0 i).2)
theorem inS_le (od : Nat → Nat) (nd fr : Nat) (s0 : trS) : ∀ i, (inS od nd fr s0 i).2 ≤ i
  | 0 => Nat.le_refl _
  | i + 1 => by
    have := inS_le od nd fr s0 i
    unfold inS
    split
    · exact Nat.le_refl _
    · show (inS od nd fr s0 i).2 ≤ i + 1
      omega
theorem inS_Bd {od : Nat → Nat} {nd fr : Nat} {s0 : trS} (hf : fr < 128) (h : Bd s0.1 ∧ Bd s0.2.1 ∧ Bd s0.2.2) : ∀ i, Bd (inS od nd fr s0 i).1.1 ∧ Bd (inS od nd fr s0 i).1.2.1 ∧ Bd (inS od nd fr s0 i).1.2.2
  | 0 => h
  | i + 1 => by
    have ih := inS_Bd (od := od) (nd := nd) hf h i
    unfold inS
    split
    · exact ih
    · exact ⟨mrO_Bd ih.1 hf, mrT_Bd ih.2.1 hf, mrB_Bd ih.2.2⟩
def insR (k nd : Nat) (s0 : trS) (od : Nat → Nat) (inn : Nat) : trS × (Nat → Nat) :=
  ((upN (inS od nd (7 + k) s0 inn).1.1 (7 + k) nd, upN (inS od nd (7 + k) s0 inn).1.2.1 (7 + k) k, upN (inS od nd (7 + k) s0 inn).1.2.2 (7 + k) ((inS od nd (7 + k) s0 inn).1.2.2 nd ||| (inS od nd (7 + k) s0 inn).1.2.2 k)),
    upN (va_cpy od od (inS od nd (7 + k) s0 inn).2 ((inS od nd (7 + k) s0 inn).2 + 1) (inn - (inS od nd (7 + k) s0 inn).2)) (inS od nd (7 + k) s0 inn).2 (7 + k))
theorem nA_cpy (f g : Nat → Nat) (sp dp n : Nat) : va_cpy (nA f) (nA g) sp dp n = nA (va_cpy f g sp dp n) := by
  funext j
  show va_cpy (nA f) (nA g) sp dp n j = nI (va_cpy f g sp dp n j)
  unfold va_cpy
  split <;> rfl
theorem gcopy_RX4_66 : ∀ z ∈ [Cond.methodLink RX4 66 arraycopyName, Cond.native arraycopyName, Cond.static arraycopyName, Cond.initialized "java/lang/System"], z ∈ pm_tb := by decide +kernel
set_option maxHeartbeats 1000000 in
theorem c_insert (hs : l.stackTraces = false) (ch : Nat → Int32) (s0 : trS) (se : Nat → Int64) (od : Nat → Nat) (inn k nd : Nat) (hB : Bd s0.1 ∧ Bd s0.2.1 ∧ Bd s0.2.2) (hod : ∀ i, i < inn → od i < 14) (hinn : inn < 6) (hk : k < 7) (hn : nd < 14) :
    pm_Met l mX4_insert 2 0 0 [.ref 0, .int (nI k), .int (nI nd)] (trW ch (nA s0.1) (nA s0.2.1) (nA s0.2.2) se (nA od) (nI inn))
      (isO none (trW ch (nA (insR k nd s0 od inn).1.1) (nA (insR k nd s0 od inn).1.2.1) (nA (insR k nd s0 od inn).1.2.2) se (nA (insR k nd s0 od inn).2) (nI (inn + 1)))) := by
  refine pm_Met.mk kX4_insert hs (pm_J.run [11] 40 (fun K hK => hK _ ?_))
  have hBi := inS_Bd (od := od) (nd := nd) (fr := 7 + k) (s0 := s0) (by omega) hB
  have key : pm_J l mX4_insert iX4_insert 2 0 0 7 (isO none (trW ch (nA (insR k nd s0 od inn).1.1) (nA (insR k nd s0 od inn).1.2.1) (nA (insR k nd s0 od inn).1.2.2) se (nA (insR k nd s0 od inn).2) (nI (inn + 1)))) 0 0
      (11, [some (.ref 0), some (.int (nI k)), some (.int (nI nd)), some (.int (nI (7 + k))), some (.int (nI (inS od nd (7 + k) s0 0).2)), some (.int (nI 0))], [], trW ch (nA (inS od nd (7 + k) s0 0).1.1) (nA (inS od nd (7 + k) s0 0).1.2.1) (nA (inS od nd (7 + k) s0 0).1.2.2) se (nA od) (nI inn)) := by
    refine pm_up (b := inn) (P := fun i => pm_J l mX4_insert iX4_insert 2 0 0 7 (isO none (trW ch (nA (insR k nd s0 od inn).1.1) (nA (insR k nd s0 od inn).1.2.1) (nA (insR k nd s0 od inn).1.2.2) se (nA (insR k nd s0 od inn).2) (nI (inn + 1)))) 0 0
      (11, [some (.ref 0), some (.int (nI k)), some (.int (nI nd)), some (.int (nI (7 + k))), some (.int (nI (inS od nd (7 + k) s0 i).2)), some (.int (nI i))], [], trW ch (nA (inS od nd (7 + k) s0 i).1.1) (nA (inS od nd (7 + k) s0 i).1.2.1) (nA (inS od nd (7 + k) s0 i).1.2.2) se (nA od) (nI inn))) 0 (Nat.zero_le _) ?_ (fun i h1 h2 ih => ?_)
    · have hp := inS_le od nd (7 + k) s0 inn
      have hB1 := hBi inn
      unfold insR
      generalize inS od nd (7 + k) s0 inn = z at hp hB1 ⊢
      obtain ⟨⟨o1, t1, b1⟩, pl⟩ := z
      dsimp only at hp hB1 ⊢
      have e1 : (nI (7 + k)).toNatClampNeg = 7 + k := nI_clamp (by omega)
      have e2 : (nI nd).toNatClampNeg = nd := nI_clamp (by omega)
      have e3 : (nI k).toNatClampNeg = k := nI_clamp (by omega)
      have e4 : (nI pl).toNatClampNeg = pl := nI_clamp (by omega)
      have e5 : nI pl + nI 1 = nI (pl + 1) := nI_add pl 1
      have e6 : nI inn - nI pl = nI (inn - pl) := pk_sub hp
      refine pm_J.run [] 60 (fun K hK => br_t (nI_le (Nat.le_refl _) (by omega)) (And.intro (vp_in_nI (by omega) (by decide)) (And.intro (vp_in_nI (by omega) (by decide)) (And.intro (vp_in_nI (by omega) (by decide)) (And.intro (vp_in_nI (by omega) (by decide)) (And.intro (vp_in_nI (by omega) (by decide)) (hK _ ?_)))))))
      refine pm_J.copyi (h0 := 6) (h1 := 6) (n0 := 7) (n1 := 7) (sp := nI pl) (dp := nI pl + nI 1) (k := nI inn - nI pl) (f := nA od) (g := nA od) rfl gcopy_RX4_66 (Nat.le_of_ble_eq_true rfl) (by decide) rfl rfl (nI_pos (by omega)) (by rw [e5]; exact nI_pos (by omega)) (by rw [e6]; exact nI_pos (by omega)) (by rw [e6, nI_clamp (by omega), nI_clamp (by omega)]; omega) (by rw [e5, e6, nI_clamp (by omega), nI_clamp (by omega)]; omega) ?_
      refine pm_J.run [] 60 (fun K hK => And.intro (vp_in_nI (by omega) (by decide)) (hK _ ?_))
      refine pm_J.rv ⟨rfl, ?_⟩
      rw [← nA_upd, ← nA_upd, ← nA_upd, ← nA_upd, ← nA_cpy, ← nx_or, ← nI_add inn 1]
      show trW ch (upd (nA o1) (nI (7 + k)).toNatClampNeg (nI nd)) (upd (nA t1) (nI (7 + k)).toNatClampNeg (nI k)) (upd (nA b1) (nI (7 + k)).toNatClampNeg (nI (b1 (nI nd).toNatClampNeg) ||| nI (b1 (nI k).toNatClampNeg))) se (upd (va_cpy (nA od) (nA od) (nI pl).toNatClampNeg (nI pl + nI 1).toNatClampNeg (nI inn - nI pl).toNatClampNeg) (nI pl).toNatClampNeg (nI (7 + k))) _ = _
      rw [e1, e2, e3, e4, e5, e6, nI_clamp (by omega : pl + 1 < 2 ^ 31), nI_clamp (by omega : inn - pl < 2 ^ 31)]
      rfl
    · have ei : (nI i).toNatClampNeg = i := nI_clamp (by omega)
      have hoi := hod i h2
      have hBi' := hBi i
      have ii : vp_in (nI i) 7 := vp_in_nI (by omega) (by decide)
      refine pm_J.run [11] 60 (fun K hK => br_f (nI_ge h2 (by omega)) (And.intro ii (And.intro (fun q => And.intro ii (hK _ ?_)) (fun q => hK _ ?_))))
      · have q' : ¬ nI (od (nI i).toNatClampNeg) = nI nd := q
        rw [ei, nI_e128 (by omega) (by omega)] at q'
        rw [ei]
        refine pm_J.cl [0, 1, 2, 3, 4, 5, 6] (c_makeRoom hs ch (inS od nd (7 + k) s0 i).1.1 (inS od nd (7 + k) s0 i).1.2.1 (inS od nd (7 + k) s0 i).1.2.2 se (nA od) (nI inn) (od i) nd (7 + k) hBi'.1 hBi'.2.1 hBi'.2.2 hoi hn (by omega) (by omega)) gRX4_62 vX4_makeRoom ?_
        refine pm_J.run [11] 60 (fun K hK => hK _ ?_)
        have e : inS od nd (7 + k) s0 (i + 1) = ((mrO (inS od nd (7 + k) s0 i).1.1 (od i) nd (7 + k), mrT (inS od nd (7 + k) s0 i).1.1 (inS od nd (7 + k) s0 i).1.2.1 (od i) nd (7 + k), mrB (inS od nd (7 + k) s0 i).1.2.2 (od i) nd (7 + k)), (inS od nd (7 + k) s0 i).2) := by rw [inS, if_neg q']
        rw [e, ← nI_add i 1] at ih
        exact ih
      · have q' : ¬ ¬ nI (od (nI i).toNatClampNeg) = nI nd := q
        rw [ei, nI_e128 (by omega) (by omega)] at q'
        have e : inS od nd (7 + k) s0 (i + 1) = ((inS od nd (7 + k) s0 i).1, i + 1) := by rw [inS, if_pos (Classical.not_not.mp q')]
        rw [e] at ih
        dsimp only at ih
        rw [← nI_add i 1] at ih
        exact ih
  rw [← nI_add 7 k] at key
  exact key
end TR3
end
section
section GRW
variable {l : Launch}
def leF (be : Nat → Nat) (i : Nat) : Nat → Nat := fun j => if j < i then 2 ^ j else be j
theorem leF_s (be : Nat → Nat) (i : Nat) : leF be (i + 1) = upN (leF be i) i (2 ^ i) := by
  funext j
  unfold leF upN
  by_cases h : j = i
  · subst h; rw [if_pos (by omega), if_pos rfl]
  · rw [if_neg h]
    by_cases h2 : j < i
    · rw [if_pos (by omega)]; exact (if_pos h2).symm
    · rw [if_neg (by omega)]; exact (if_neg h2).symm
theorem leF_0 (be : Nat → Nat) : leF be 0 = be := by funext j; simp [leF]
theorem leF_Bd {be : Nat → Nat} (h : Bd be) {i : Nat} (hi : i ≤ 7) : Bd (leF be i) := fun j => by
  unfold leF
  split
  · have : 2 ^ j < 2 ^ 7 := Nat.pow_lt_pow_right (by decide) (by omega)
    omega
  · exact h j
def grS (ch : Nat → Nat) (s0 : trS) (od : Nat → Nat) : Nat → trS × (Nat → Nat)
  | 0 => (s0, od)
  | i + 1 => if i < 2 then (s0, od) else insR i (nodeF ch i) (grS ch s0 od i).1 (grS ch s0 od i).2 (i - 2)
theorem insR_Bd {k nd inn : Nat} {s0 : trS} {od : Nat → Nat} (hk : k < 7) (hn : nd < 14) (h : Bd s0.1 ∧ Bd s0.2.1 ∧ Bd s0.2.2) : Bd (insR k nd s0 od inn).1.1 ∧ Bd (insR k nd s0 od inn).1.2.1 ∧ Bd (insR k nd s0 od inn).1.2.2 := by
  have hb := inS_Bd (od := od) (nd := nd) (fr := 7 + k) (s0 := s0) (by omega) h inn
  exact ⟨hb.1.up (by omega), hb.2.1.up (by omega), hb.2.2.up (or128 (hb.2.2 _) (hb.2.2 _))⟩
theorem insR_od {k nd inn : Nat} {s0 : trS} {od : Nat → Nat} (hk : k < 7) (h : ∀ j, j < inn → od j < 14) : ∀ j, j < inn + 1 → (insR k nd s0 od inn).2 j < 14 := by
  intro j hj
  have hp := inS_le od nd (7 + k) s0 inn
  show upN (va_cpy od od _ _ _) _ (7 + k) j < 14
  generalize (inS od nd (7 + k) s0 inn).2 = pl at hp ⊢
  unfold upN va_cpy
  split
  · omega
  · split
    · exact h _ (by omega)
    · exact h _ (by omega)
theorem grS_inv {ch : Nat → Nat} {s0 : trS} {od : Nat → Nat} (hB : Bd s0.1 ∧ Bd s0.2.1 ∧ Bd s0.2.2) (hn : ∀ i, 2 ≤ i → i < 7 → nodeF ch i < 14) : ∀ i, i ≤ 7 → (Bd (grS ch s0 od i).1.1 ∧ Bd (grS ch s0 od i).1.2.1 ∧ Bd (grS ch s0 od i).1.2.2) ∧ ∀ j, j < i - 2 → (grS ch s0 od i).2 j < 14
  | 0, _ => ⟨hB, fun j hj => by omega⟩
  | i + 1, hi => by
    have ih := grS_inv (od := od) hB hn i (by omega)
    unfold grS
    split
    · exact ⟨hB, fun j hj => by omega⟩
    · refine ⟨insR_Bd (by omega) (hn i (by omega) (by omega)) ih.1, fun j hj => ?_⟩
      exact insR_od (by omega) ih.2 j (by omega)
theorem choF_lt (k : Nat) : ∀ (x : Nat) (ch : Nat → Nat) (i : Nat), 3 ≤ i → i < k → choF k x ch i < 2 * i - 3 := by
  induction k with
  | zero => intro x ch i h1 h2; omega
  | succ k ih =>
    intro x ch i h1 h2
    rw [choF_s]
    have hout : ∀ (n : Nat) (x : Nat) (c : Nat → Nat) (i : Nat), n ≤ i → choF n x c i = c i := by
      intro n
      induction n with
      | zero => intro x c i _; rfl
      | succ n ih2 =>
        intro x c i hi
        rw [choF_s]
        split
        · rfl
        · rw [ih2 _ _ _ (by omega), upN_n (by omega)]
    rw [if_neg (by omega)]
    by_cases h3 : i = k
    · subst h3
      rw [hout i _ _ i (Nat.le_refl _), upN_s]
      exact Nat.mod_lt _ (by omega)
    · exact ih _ _ i h1 (by omega)
theorem choF_2 (k : Nat) : ∀ (x : Nat) (ch : Nat → Nat), choF k x ch 2 = ch 2 := by
  induction k with
  | zero => intro x ch; rfl
  | succ k ih =>
    intro x ch
    rw [choF_s]
    split
    · rfl
    · rw [ih, upN_n (by omega)]
theorem choF_Bd (k : Nat) (hk : k ≤ 7) : ∀ (x : Nat) (ch : Nat → Nat), Bd ch → Bd (choF k x ch) := by
  induction k with
  | zero => intro x ch h; exact h
  | succ k ih =>
    intro x ch h
    rw [choF_s]
    split
    · exact h
    · have hm : x % (2 * k - 3) < 2 * k - 3 := Nat.mod_lt _ (by omega)
      exact ih (by omega) _ _ (h.up (by omega))
theorem node_lt {k x : Nat} {ch : Nat → Nat} (h2 : ch 2 = 0) (i : Nat) (hi2 : 2 ≤ i) (hik : i < k) (hi : i < 7) : nodeF (choF k x ch) i < 14 := by
  unfold nodeF
  by_cases h : i = 2
  · subst h
    rw [choF_2, h2]
    decide
  · have := choF_lt k x ch i (by omega) hik
    split <;> omega
theorem grS_inv' {k x : Nat} {ch : Nat → Nat} {s0 : trS} {od : Nat → Nat} (h2 : ch 2 = 0) (hk : k ≤ 7) (hB : Bd s0.1 ∧ Bd s0.2.1 ∧ Bd s0.2.2) : ∀ i, i ≤ k → (Bd (grS (choF k x ch) s0 od i).1.1 ∧ Bd (grS (choF k x ch) s0 od i).1.2.1 ∧ Bd (grS (choF k x ch) s0 od i).1.2.2) ∧ ∀ j, j < i - 2 → (grS (choF k x ch) s0 od i).2 j < 14
  | 0, _ => ⟨hB, fun j hj => by omega⟩
  | i + 1, hi => by
    have ih := grS_inv' (x := x) (od := od) h2 hk hB i (by omega)
    unfold grS
    split
    · exact ⟨hB, fun j hj => by omega⟩
    · refine ⟨insR_Bd (by omega) (node_lt h2 i (by omega) (by omega) (by omega)) ih.1, fun j hj => ?_⟩
      exact insR_od (by omega) ih.2 j (by omega)
/-- what grow makes -/
abbrev grR (k x : Nat) (ch : Nat → Nat) (s0 : trS) (od : Nat → Nat) : trS × (Nat → Nat) := grS (choF k x ch) (s0.1, s0.2.1, leF s0.2.2 k) od k
abbrev trW' (ch : Nat → Nat) (s : trS) (se : Nat → Int64) (od : Nat → Nat) (inn : Nat) : List pm_E := trW (nA ch) (nA s.1) (nA s.2.1) (nA s.2.2) se (nA od) (nI inn)
set_option maxHeartbeats 1000000 in
theorem c_grow (hs : l.stackTraces = false) (ch : Nat → Nat) (s0 : trS) (se : Nat → Int64) (od : Nat → Nat) (inn x k : Nat) (hc : Bd ch) (hc2 : ch 2 = 0) (hB : Bd s0.1 ∧ Bd s0.2.1 ∧ Bd s0.2.2) (hx : x < 2 ^ 31) (hk3 : 3 ≤ k) (hk : k ≤ 7) :
    pm_Met l mX4_grow 3 0 0 [.ref 0, .int (nI x), .int (nI k)] (trW' ch s0 se od inn) (isO none (trW' (choF k x ch) (grR k x ch s0 od).1 se (grR k x ch s0 od).2 (k - 2))) := by
  refine pm_Met.mk kX4_grow hs (pm_J.run [] 40 (fun K hK => hK _ ?_))
  refine pm_J.cl [0, 1, 2, 3, 4, 5, 6] (c_choose hs ch s0.1 s0.2.1 s0.2.2 se od (nI inn) x k hx hk3 hk) gRX4_31 vX4_choose ?_
  refine pm_J.run [13] 40 (fun K hK => hK _ ?_)
  have second : ∀ x3, pm_J l mX4_grow iX4_grow 3 0 0 7 (isO none (trW' (choF k x ch) (grR k x ch s0 od).1 se (grR k x ch s0 od).2 (k - 2))) 0 0 (33, [some (.ref 0), some (.int (nI x)), some (.int (nI k)), x3], [], trW' (choF k x ch) (s0.1, s0.2.1, leF s0.2.2 k) se od 0) := by
    intro x3
    refine pm_J.run [35] 40 (fun K hK => hK _ ?_)
    have hB' : Bd s0.1 ∧ Bd s0.2.1 ∧ Bd (leF s0.2.2 k) := ⟨hB.1, hB.2.1, leF_Bd hB.2.2 hk⟩
    have key : pm_J l mX4_grow iX4_grow 3 0 0 7 (isO none (trW' (choF k x ch) (grR k x ch s0 od).1 se (grR k x ch s0 od).2 (k - 2))) 0 0 (35, [some (.ref 0), some (.int (nI x)), some (.int (nI k)), some (.int (nI 2))], [], trW' (choF k x ch) (grS (choF k x ch) (s0.1, s0.2.1, leF s0.2.2 k) od 2).1 se (grS (choF k x ch) (s0.1, s0.2.1, leF s0.2.2 k) od 2).2 (2 - 2)) := by
      refine pm_up (b := k) (P := fun i => pm_J l mX4_grow iX4_grow 3 0 0 7 (isO none (trW' (choF k x ch) (grR k x ch s0 od).1 se (grR k x ch s0 od).2 (k - 2))) 0 0 (35, [some (.ref 0), some (.int (nI x)), some (.int (nI k)), some (.int (nI i))], [], trW' (choF k x ch) (grS (choF k x ch) (s0.1, s0.2.1, leF s0.2.2 k) od i).1 se (grS (choF k x ch) (s0.1, s0.2.1, leF s0.2.2 k) od i).2 (i - 2))) 2 (by omega) ?_ (fun i h1 h2 ih => ?_)
      · refine pm_J.run [35] 40 (fun K hK => br_t (nI_le (Nat.le_refl _) (by omega)) (hK _ ?_))
        exact pm_J.rv ⟨rfl, rfl⟩
      · obtain ⟨hBi, hodi⟩ := grS_inv' (x := x) (od := od) (s0 := (s0.1, s0.2.1, leF s0.2.2 k)) hc2 hk hB' i (by omega)
        refine pm_J.run [35] 40 (fun K hK => br_f (nI_ge h2 (by omega)) (hK _ ?_))
        refine pm_J.cl [0, 1, 2, 3, 4, 5, 6] (c_chosenNode hs (choF k x ch) _ _ _ se _ _ i h1 (by omega) (choF_Bd k hk x ch hc)) gRX4_39 vX4_chosenNode ?_
        refine pm_J.cl [0, 1, 2, 3, 4, 5, 6] (c_insert hs (nA (choF k x ch)) (grS (choF k x ch) (s0.1, s0.2.1, leF s0.2.2 k) od i).1 se (grS (choF k x ch) (s0.1, s0.2.1, leF s0.2.2 k) od i).2 (i - 2) i (nodeF (choF k x ch) i) hBi hodi (by omega) (by omega) (node_lt hc2 i h1 h2 (by omega))) gRX4_43 vX4_insert ?_
        refine pm_J.run [35] 40 (fun K hK => hK _ ?_)
        have e : grS (choF k x ch) (s0.1, s0.2.1, leF s0.2.2 k) od (i + 1) = insR i (nodeF (choF k x ch) i) (grS (choF k x ch) (s0.1, s0.2.1, leF s0.2.2 k) od i).1 (grS (choF k x ch) (s0.1, s0.2.1, leF s0.2.2 k) od i).2 (i - 2) := by rw [grS, if_neg (by omega)]
        rw [e, ← nI_add i 1, show i + 1 - 2 = i - 2 + 1 by omega] at ih
        exact ih
    exact key
  have first : pm_J l mX4_grow iX4_grow 3 0 0 7 (isO none (trW' (choF k x ch) (grR k x ch s0 od).1 se (grR k x ch s0 od).2 (k - 2))) 0 0 (13, [some (.ref 0), some (.int (nI x)), some (.int (nI k)), some (.int (nI 0))], [], trW' (choF k x ch) (s0.1, s0.2.1, leF s0.2.2 0) se od 0) := by
    refine pm_up (b := k) (P := fun i => pm_J l mX4_grow iX4_grow 3 0 0 7 (isO none (trW' (choF k x ch) (grR k x ch s0 od).1 se (grR k x ch s0 od).2 (k - 2))) 0 0 (13, [some (.ref 0), some (.int (nI x)), some (.int (nI k)), some (.int (nI i))], [], trW' (choF k x ch) (s0.1, s0.2.1, leF s0.2.2 i) se od 0)) 0 (Nat.zero_le _) ?_ (fun i h1 h2 ih => ?_)
    · refine pm_J.run [33] 40 (fun K hK => br_t (nI_le (Nat.le_refl _) (by omega)) (hK _ ?_))
      exact second _
    · refine pm_J.run [13] 40 (fun K hK => br_f (nI_ge h2 (by omega)) (And.intro (vp_in_nI (by omega) (by decide)) (hK _ ?_)))
      rw [leF_s] at ih
      unfold trW' at ih
      dsimp only at ih
      rw [← nA_upd, ← nI_shl1 (by omega), ← nI_add i 1] at ih
      rw [nI_clamp (by omega)]
      exact ih
  rw [leF_0] at first
  exact first
end GRW
end
section
section TR4
variable {l : Launch}
def ushr (x : Int64) (k : Nat) : Int64 := (x.toUInt64 >>> ((nI k).toInt64.toUInt64 &&& Int64.toUInt64 63)).toInt64
def tornF (a b : Int64) : Int64 := (((((a &&& b) ||| ushr (a &&& b) 1) ||| ushr (a &&& b) 2) ||| ushr (a &&& b) 3) ^^^ (-1)) &&& 1229782938247303441
def joinF (a b t : Int64) : Int64 := (a &&& b) ||| ((a ||| b) &&& (t * 15))
theorem c_tornAt (hs : l.stackTraces = false) (ch on ot be : Nat → Int32) (se : Nat → Int64) (od : Nat → Int32) (inn : Int32) (a b : Nat) (ha : a < 14) (hb : b < 14) : pm_Met l mX4_tornAt 1 0 0 [.ref 0, .int (nI a), .int (nI b)] (trW ch on ot be se od inn) (isO (some (.long (tornF (se a) (se b)))) (trW ch on ot be se od inn)) := by
  refine pm_Met.mk kX4_tornAt hs (pm_J.run [] 60 (fun K hK => And.intro (vp_in_nI ha (by decide)) (And.intro (vp_in_nI hb (by decide)) (hK _ ?_))))
  rw [nI_clamp (by omega), nI_clamp (by omega)]
  exact pm_J.rl ⟨rfl, rfl⟩
theorem c_joined (hs : l.stackTraces = false) (ch on ot be : Nat → Int32) (se : Nat → Int64) (od : Nat → Int32) (inn : Int32) (a b : Nat) (t : Int64) (ha : a < 14) (hb : b < 14) : pm_Met l mX4_joined 1 0 0 [.ref 0, .int (nI a), .int (nI b), .long t] (trW ch on ot be se od inn) (isO (some (.long (joinF (se a) (se b) t))) (trW ch on ot be se od inn)) := by
  have i1 : vp_in (nI a) 14 := vp_in_nI ha (by decide)
  have i2 : vp_in (nI b) 14 := vp_in_nI hb (by decide)
  refine pm_Met.mk kX4_joined hs (pm_J.run [] 60 (fun K hK => And.intro i1 (And.intro i2 (And.intro i1 (And.intro i2 (hK _ ?_))))))
  rw [nI_clamp (by omega), nI_clamp (by omega)]
  exact pm_J.rl ⟨rfl, rfl⟩
/-- a table's cells from the place h on -/
abbrev tbAt (h : Nat) (r : Nat → Int64) (wt : Nat → Nat) (k c : Nat) : List pm_E := [.inr (2, [.ref (h + 1), .ref (h + 2), .int (nI k), .int (nI c)]), .inl (.long, 7, .inr (.inl r)), .inl (.int, 16, .inl (nA wt))]
def seF (r se : Nat → Int64) (i : Nat) : Nat → Int64 := fun j => if j < i then r j else se j
theorem seF_0 (r se : Nat → Int64) : seF r se 0 = se := by funext j; simp [seF]
theorem seF_s (r se : Nat → Int64) (i : Nat) : seF r se (i + 1) = vp_updL (seF r se i) i (r i) := by
  funext j
  unfold seF
  by_cases h : j = i
  · subst h; rw [pk_uLs, if_pos (by omega)]
  · rw [pk_uLn h]
    by_cases h2 : j < i
    · rw [if_pos (by omega), if_pos h2]
    · rw [if_neg (by omega), if_neg h2]
def pkS (on ot od : Nat → Nat) (se0 : Nat → Int64) : Nat → Int64 × Nat × (Nat → Int64)
  | 0 => (0, 0, se0)
  | i + 1 => ((pkS on ot od se0 i).1 + tornF ((pkS on ot od se0 i).2.2 (on (od i))) ((pkS on ot od se0 i).2.2 (ot (od i))), od i,
      vp_updL (pkS on ot od se0 i).2.2 (od i) (joinF ((pkS on ot od se0 i).2.2 (on (od i))) ((pkS on ot od se0 i).2.2 (ot (od i))) (tornF ((pkS on ot od se0 i).2.2 (on (od i))) ((pkS on ot od se0 i).2.2 (ot (od i))))))
def Bn (f : Nat → Nat) : Prop := ∀ j, f j < 14
theorem pkS_top {on ot od : Nat → Nat} {se0 : Nat → Int64} (h : Bn od) : ∀ i, (pkS on ot od se0 i).2.1 < 14
  | 0 => (by decide : 0 < 14)
  | i + 1 => h i
def pkR (on ot od : Nat → Nat) (se0 : Nat → Int64) (inn : Nat) : Int64 := (pkS on ot od se0 inn).1 + tornF ((pkS on ot od se0 inn).2.2 0) ((pkS on ot od se0 inn).2.2 (pkS on ot od se0 inn).2.1)
set_option maxHeartbeats 1000000 in
theorem c_packed (hs : l.stackTraces = false) (ch be : Nat → Int32) (on ot od : Nat → Nat) (se : Nat → Int64) (inn : Nat) (r : Nat → Int64) (wt : Nat → Nat) (k c : Nat) (hk : k ≤ 7) (hi : inn ≤ 7) (hon : Bn on) (hot : Bn ot) (hod : Bn od) :
    pm_Met l mX4_packedChanges 2 0 0 [.ref 0, .ref 7] (trW ch (nA on) (nA ot) be se (nA od) (nI inn) ++ tbAt 7 r wt k c)
      (isO (some (.long (pkR on ot od (seF r se k) inn))) (trW ch (nA on) (nA ot) be (pkS on ot od (seF r se k) inn).2.2 (nA od) (nI inn) ++ tbAt 7 r wt k c)) := by
  refine pm_Met.mk kX4_packedChanges hs (pm_J.run [2] 40 (fun K hK => hK _ ?_))
  have loop2 : ∀ x6 x7 : Option Value, pm_J l mX4_packedChanges iX4_packedChanges 2 0 0 10 (isO (some (.long (pkR on ot od (seF r se k) inn))) (trW ch (nA on) (nA ot) be (pkS on ot od (seF r se k) inn).2.2 (nA od) (nI inn) ++ tbAt 7 r wt k c)) 0 0
      (36, [some (.ref 0), some (.ref 7), some (.long (pkS on ot od (seF r se k) 0).1), none, some (.int (nI (pkS on ot od (seF r se k) 0).2.1)), some (.int (nI 0)), x6, x7], [], trW ch (nA on) (nA ot) be (pkS on ot od (seF r se k) 0).2.2 (nA od) (nI inn) ++ tbAt 7 r wt k c) := by
    refine pm_up (b := inn) (P := fun i => ∀ x6 x7 : Option Value, pm_J l mX4_packedChanges iX4_packedChanges 2 0 0 10 (isO (some (.long (pkR on ot od (seF r se k) inn))) (trW ch (nA on) (nA ot) be (pkS on ot od (seF r se k) inn).2.2 (nA od) (nI inn) ++ tbAt 7 r wt k c)) 0 0
      (36, [some (.ref 0), some (.ref 7), some (.long (pkS on ot od (seF r se k) i).1), none, some (.int (nI (pkS on ot od (seF r se k) i).2.1)), some (.int (nI i)), x6, x7], [], trW ch (nA on) (nA ot) be (pkS on ot od (seF r se k) i).2.2 (nA od) (nI inn) ++ tbAt 7 r wt k c)) 0 (Nat.zero_le _) (fun x6 x7 => ?_) (fun i h1 h2 ih x6 x7 => ?_)
    · have ht := pkS_top (on := on) (ot := ot) (se0 := seF r se k) hod inn
      refine pm_J.run [] 40 (fun K hK => br_t (nI_le (Nat.le_refl _) (by omega)) (hK _ ?_))
      refine pm_J.cl [0, 1, 2, 3, 4, 5, 6] (c_tornAt hs ch (nA on) (nA ot) be (pkS on ot od (seF r se k) inn).2.2 (nA od) (nI inn) 0 (pkS on ot od (seF r se k) inn).2.1 (by decide) ht) gRX4_75 vX4_tornAt ?_
      refine pm_J.run [] 40 (fun K hK => hK _ ?_)
      exact pm_J.rl ⟨rfl, rfl⟩
    · have ei : (nI i).toNatClampNeg = i := nI_clamp (by omega)
      have eo : (nI (od i)).toNatClampNeg = od i := nI_clamp (by have := hod i; omega)
      have j1 : vp_in (nI i) 7 := vp_in_nI (by omega) (by decide)
      have j2 : vp_in (nI (od (nI i).toNatClampNeg)) 14 := by rw [ei]; exact vp_in_nI (hod i) (by decide)
      refine pm_J.run [36] 60 (fun K hK => br_f (nI_ge h2 (by omega)) (And.intro j1 (And.intro j2 (And.intro j2 (hK _ ?_)))))
      rw [ei, eo]
      refine pm_J.cl [0, 1, 2, 3, 4, 5, 6] (c_tornAt hs ch (nA on) (nA ot) be (pkS on ot od (seF r se k) i).2.2 (nA od) (nI inn) (on (od i)) (ot (od i)) (hon _) (hot _)) gRX4_75 vX4_tornAt ?_
      refine pm_J.run [36] 60 (fun K hK => And.intro (vp_in_nI (hod i) (by decide)) (And.intro (vp_in_nI (hod i) (by decide)) (hK _ ?_)))
      rw [eo]
      refine pm_J.cl [0, 1, 2, 3, 4, 5, 6] (c_joined hs ch (nA on) (nA ot) be (pkS on ot od (seF r se k) i).2.2 (nA od) (nI inn) (on (od i)) (ot (od i)) (tornF ((pkS on ot od (seF r se k) i).2.2 (on (od i))) ((pkS on ot od (seF r se k) i).2.2 (ot (od i)))) (hon _) (hot _)) gRX4_79 vX4_joined ?_
      refine pm_J.run [36] 60 (fun K hK => And.intro (vp_in_nI (hod i) (by decide)) (hK _ ?_))
      have := ih (some (.long (tornF ((pkS on ot od (seF r se k) i).2.2 (on (od i))) ((pkS on ot od (seF r se k) i).2.2 (ot (od i)))))) none
      rw [← nI_add i 1] at this
      rw [eo]
      exact this
  have loop1 : pm_J l mX4_packedChanges iX4_packedChanges 2 0 0 10 (isO (some (.long (pkR on ot od (seF r se k) inn))) (trW ch (nA on) (nA ot) be (pkS on ot od (seF r se k) inn).2.2 (nA od) (nI inn) ++ tbAt 7 r wt k c)) 0 0
      (2, [some (.ref 0), some (.ref 7), some (.int (nI 0)), none, none, none, none, none], [], trW ch (nA on) (nA ot) be (seF r se 0) (nA od) (nI inn) ++ tbAt 7 r wt k c) := by
    refine pm_up (b := k) (P := fun i => pm_J l mX4_packedChanges iX4_packedChanges 2 0 0 10 (isO (some (.long (pkR on ot od (seF r se k) inn))) (trW ch (nA on) (nA ot) be (pkS on ot od (seF r se k) inn).2.2 (nA od) (nI inn) ++ tbAt 7 r wt k c)) 0 0
      (2, [some (.ref 0), some (.ref 7), some (.int (nI i)), none, none, none, none, none], [], trW ch (nA on) (nA ot) be (seF r se i) (nA od) (nI inn) ++ tbAt 7 r wt k c)) 0 (Nat.zero_le _) ?_ (fun i h1 h2 ih => ?_)
    · refine pm_J.run [36] 40 (fun K hK => br_t (nI_le (Nat.le_refl _) (by omega)) (hK _ ?_))
      exact loop2 none none
    · have ei : (nI i).toNatClampNeg = i := nI_clamp (by omega)
      refine pm_J.run [2] 40 (fun K hK => br_f (nI_ge h2 (by omega)) (And.intro (vp_in_nI (by omega) (by decide)) (And.intro (vp_in_nI (by omega) (by decide)) (hK _ ?_))))
      rw [ei]
      rw [seF_s, ← nI_add i 1] at ih
      exact ih
  rw [seF_0] at loop1
  exact loop1
end TR4
end
section
section RU2
variable {l : Launch} {I : pm_I} {M : pm_M} {d mc ms n : Nat} {O : pm_O → List pm_E → Prop}
theorem pm_bk_same {q : List Nat} {w wc : List pm_E} (h : pm_fits q w wc) : pm_bk (pm_rn q) w q wc = w := by
  apply List.ext_getElem?
  intro i
  by_cases hm : i ∈ q
  · obtain ⟨k, hk⟩ := List.getElem?_of_mem hm
    have hkl : k < wc.length := by rw [← h.len]; exact (List.getElem?_eq_some_iff.mp hk).1
    obtain ⟨g1, g2, g3⟩ := h.lt hkl
    rw [hk] at g2
    have hi : i = pm_rn q k := Option.some.inj g2
    rw [pm_bk_in _ q w wc k h.1 hk (List.getElem?_eq_getElem hkl) (by rw [hi]; exact g1), hi, g3]
  · exact pm_bk_out _ q w wc hm
section
variable {pc ix ci k0 d' : Nat} {L : List (Option Value)} {st rest As : List Value} {w wc w1 : List pm_E} {M' : pm_M} {fs : List Value} {qc : vw_C}
/-- a call that answers an int and leaves all as it was -/
theorem pm_J.cI {x : Int32} (q : List Nat) (hM : pm_Met l M' d' 0 0 (.ref k0 :: As) wc (isO (some (.int x)) wc))
    (hw : ∀ x ∈ wsV M.2.2.2.2 ix qc.1 M'.1 [Cond.code M'.1 M'.2.1 M'.2.2.1 M'.2.2.2.1], x ∈ pm_tb)
    (hy : M'.1.cls = qc.1 ∧ M'.1.cls ≠ "java/lang/invoke/MethodHandle" ∧ M'.1.cls ≠ "java/lang/invoke/VarHandle" ∧ (parseMethodDescriptor M'.1.desc).map (fun d => d.parameters.length) = some As.length)
    (kr : pm_J l M I d mc ms n O 0 0 (pc + 3, L, .int x :: rest, w))
    (hd : pm_find I.1 pc = some (.invokevirtual ix, 3) := by rfl) (hst : st = ((Value.ref k0 :: As).map (pm_v (pm_rn q))).reverse ++ rest := by rfl) (hf1 : va_nd q = true := by rfl) (hf2 : q.map (fun h => pm_nth w h) = wc.map (fun c => some (pm_rc (pm_rn q) c)) := by rfl) (hn : w.length = n := by rfl) (hr : wc[k0]? = some (.inr (ci, fs)) := by rfl) (hqc : vwCl[ci]? = some qc := by rfl)
    (hrest : Nat.ble (rest.map Value.category).sum 8 = true := by rfl) (hdd : Nat.ble (d' + 1) d = true := by rfl) (hml : Nat.ble M'.2.2.1 81 = true := by rfl) : pm_J l M I d mc ms n O 0 0 (pc, L, st, w) := by
  refine pm_J.cl q hM hw hy ?_ hd hst hf1 hf2 hn hr hqc hrest hdd hml
  rw [pm_bk_same ⟨hf1, hf2⟩]
  exact kr
theorem pm_J.cL {x : Int64} (q : List Nat) (hM : pm_Met l M' d' 0 0 (.ref k0 :: As) wc (isO (some (.long x)) wc))
    (hw : ∀ x ∈ wsV M.2.2.2.2 ix qc.1 M'.1 [Cond.code M'.1 M'.2.1 M'.2.2.1 M'.2.2.2.1], x ∈ pm_tb)
    (hy : M'.1.cls = qc.1 ∧ M'.1.cls ≠ "java/lang/invoke/MethodHandle" ∧ M'.1.cls ≠ "java/lang/invoke/VarHandle" ∧ (parseMethodDescriptor M'.1.desc).map (fun d => d.parameters.length) = some As.length)
    (kr : pm_J l M I d mc ms n O 0 0 (pc + 3, L, .long x :: rest, w))
    (hd : pm_find I.1 pc = some (.invokevirtual ix, 3) := by rfl) (hst : st = ((Value.ref k0 :: As).map (pm_v (pm_rn q))).reverse ++ rest := by rfl) (hf1 : va_nd q = true := by rfl) (hf2 : q.map (fun h => pm_nth w h) = wc.map (fun c => some (pm_rc (pm_rn q) c)) := by rfl) (hn : w.length = n := by rfl) (hr : wc[k0]? = some (.inr (ci, fs)) := by rfl) (hqc : vwCl[ci]? = some qc := by rfl)
    (hrest : Nat.ble (rest.map Value.category).sum 8 = true := by rfl) (hdd : Nat.ble (d' + 1) d = true := by rfl) (hml : Nat.ble M'.2.2.1 81 = true := by rfl) : pm_J l M I d mc ms n O 0 0 (pc, L, st, w) := by
  refine pm_J.cl q hM hw hy ?_ hd hst hf1 hf2 hn hr hqc hrest hdd hml
  rw [pm_bk_same ⟨hf1, hf2⟩]
  exact kr
theorem pm_J.cF {x : UInt32} (q : List Nat) (hM : pm_Met l M' d' 0 0 (.ref k0 :: As) wc (isO (some (.float x)) wc))
    (hw : ∀ x ∈ wsV M.2.2.2.2 ix qc.1 M'.1 [Cond.code M'.1 M'.2.1 M'.2.2.1 M'.2.2.2.1], x ∈ pm_tb)
    (hy : M'.1.cls = qc.1 ∧ M'.1.cls ≠ "java/lang/invoke/MethodHandle" ∧ M'.1.cls ≠ "java/lang/invoke/VarHandle" ∧ (parseMethodDescriptor M'.1.desc).map (fun d => d.parameters.length) = some As.length)
    (kr : pm_J l M I d mc ms n O 0 0 (pc + 3, L, .float x :: rest, w))
    (hd : pm_find I.1 pc = some (.invokevirtual ix, 3) := by rfl) (hst : st = ((Value.ref k0 :: As).map (pm_v (pm_rn q))).reverse ++ rest := by rfl) (hf1 : va_nd q = true := by rfl) (hf2 : q.map (fun h => pm_nth w h) = wc.map (fun c => some (pm_rc (pm_rn q) c)) := by rfl) (hn : w.length = n := by rfl) (hr : wc[k0]? = some (.inr (ci, fs)) := by rfl) (hqc : vwCl[ci]? = some qc := by rfl)
    (hrest : Nat.ble (rest.map Value.category).sum 8 = true := by rfl) (hdd : Nat.ble (d' + 1) d = true := by rfl) (hml : Nat.ble M'.2.2.1 81 = true := by rfl) : pm_J l M I d mc ms n O 0 0 (pc, L, st, w) := by
  refine pm_J.cl q hM hw hy ?_ hd hst hf1 hf2 hn hr hqc hrest hdd hml
  rw [pm_bk_same ⟨hf1, hf2⟩]
  exact kr
/-- a call that leaves w2 -/
theorem pm_J.cv (q : List Nat) (w2 : List pm_E) (hM : pm_Met l M' d' 0 0 (.ref k0 :: As) wc (isO none w1))
    (hw : ∀ x ∈ wsV M.2.2.2.2 ix qc.1 M'.1 [Cond.code M'.1 M'.2.1 M'.2.2.1 M'.2.2.2.1], x ∈ pm_tb)
    (hy : M'.1.cls = qc.1 ∧ M'.1.cls ≠ "java/lang/invoke/MethodHandle" ∧ M'.1.cls ≠ "java/lang/invoke/VarHandle" ∧ (parseMethodDescriptor M'.1.desc).map (fun d => d.parameters.length) = some As.length)
    (kr : pm_J l M I d mc ms n O 0 0 (pc + 3, L, rest, w2))
    (hw2 : pm_bk (pm_rn q) w q w1 = w2 := by rfl)
    (hd : pm_find I.1 pc = some (.invokevirtual ix, 3) := by rfl) (hst : st = ((Value.ref k0 :: As).map (pm_v (pm_rn q))).reverse ++ rest := by rfl) (hf1 : va_nd q = true := by rfl) (hf2 : q.map (fun h => pm_nth w h) = wc.map (fun c => some (pm_rc (pm_rn q) c)) := by rfl) (hn : w.length = n := by rfl) (hr : wc[k0]? = some (.inr (ci, fs)) := by rfl) (hqc : vwCl[ci]? = some qc := by rfl)
    (hrest : Nat.ble (rest.map Value.category).sum 8 = true := by rfl) (hdd : Nat.ble (d' + 1) d = true := by rfl) (hml : Nat.ble M'.2.2.1 81 = true := by rfl) : pm_J l M I d mc ms n O 0 0 (pc, L, st, w) := by
  refine pm_J.cl q hM hw hy ?_ hd hst hf1 hf2 hn hr hqc hrest hdd hml
  rw [hw2]
  exact kr
theorem pm_J.ciw {x : Int32} (q : List Nat) (w2 : List pm_E) (hM : pm_Met l M' d' 0 0 (.ref k0 :: As) wc (isO (some (.int x)) w1))
    (hw : ∀ x ∈ wsV M.2.2.2.2 ix qc.1 M'.1 [Cond.code M'.1 M'.2.1 M'.2.2.1 M'.2.2.2.1], x ∈ pm_tb)
    (hy : M'.1.cls = qc.1 ∧ M'.1.cls ≠ "java/lang/invoke/MethodHandle" ∧ M'.1.cls ≠ "java/lang/invoke/VarHandle" ∧ (parseMethodDescriptor M'.1.desc).map (fun d => d.parameters.length) = some As.length)
    (kr : pm_J l M I d mc ms n O 0 0 (pc + 3, L, .int x :: rest, w2))
    (hw2 : pm_bk (pm_rn q) w q w1 = w2 := by rfl)
    (hd : pm_find I.1 pc = some (.invokevirtual ix, 3) := by rfl) (hst : st = ((Value.ref k0 :: As).map (pm_v (pm_rn q))).reverse ++ rest := by rfl) (hf1 : va_nd q = true := by rfl) (hf2 : q.map (fun h => pm_nth w h) = wc.map (fun c => some (pm_rc (pm_rn q) c)) := by rfl) (hn : w.length = n := by rfl) (hr : wc[k0]? = some (.inr (ci, fs)) := by rfl) (hqc : vwCl[ci]? = some qc := by rfl)
    (hrest : Nat.ble (rest.map Value.category).sum 8 = true := by rfl) (hdd : Nat.ble (d' + 1) d = true := by rfl) (hml : Nat.ble M'.2.2.1 81 = true := by rfl) : pm_J l M I d mc ms n O 0 0 (pc, L, st, w) := by
  refine pm_J.cl q hM hw hy ?_ hd hst hf1 hf2 hn hr hqc hrest hdd hml
  rw [hw2]
  exact kr
theorem pm_J.cLw {x : Int64} (q : List Nat) (w2 : List pm_E) (hM : pm_Met l M' d' 0 0 (.ref k0 :: As) wc (isO (some (.long x)) w1))
    (hw : ∀ x ∈ wsV M.2.2.2.2 ix qc.1 M'.1 [Cond.code M'.1 M'.2.1 M'.2.2.1 M'.2.2.2.1], x ∈ pm_tb)
    (hy : M'.1.cls = qc.1 ∧ M'.1.cls ≠ "java/lang/invoke/MethodHandle" ∧ M'.1.cls ≠ "java/lang/invoke/VarHandle" ∧ (parseMethodDescriptor M'.1.desc).map (fun d => d.parameters.length) = some As.length)
    (kr : pm_J l M I d mc ms n O 0 0 (pc + 3, L, .long x :: rest, w2))
    (hw2 : pm_bk (pm_rn q) w q w1 = w2 := by rfl)
    (hd : pm_find I.1 pc = some (.invokevirtual ix, 3) := by rfl) (hst : st = ((Value.ref k0 :: As).map (pm_v (pm_rn q))).reverse ++ rest := by rfl) (hf1 : va_nd q = true := by rfl) (hf2 : q.map (fun h => pm_nth w h) = wc.map (fun c => some (pm_rc (pm_rn q) c)) := by rfl) (hn : w.length = n := by rfl) (hr : wc[k0]? = some (.inr (ci, fs)) := by rfl) (hqc : vwCl[ci]? = some qc := by rfl)
    (hrest : Nat.ble (rest.map Value.category).sum 8 = true := by rfl) (hdd : Nat.ble (d' + 1) d = true := by rfl) (hml : Nat.ble M'.2.2.1 81 = true := by rfl) : pm_J l M I d mc ms n O 0 0 (pc, L, st, w) := by
  refine pm_J.cl q hM hw hy ?_ hd hst hf1 hf2 hn hr hqc hrest hdd hml
  rw [hw2]
  exact kr
end
/-- a static call that answers an int and touches no world -/
theorem pm_J.cis {pc ix d' : Nat} {L : List (Option Value)} {st rest As : List Value} {w : List pm_E} {M' : pm_M} {x : Int32} (hM : pm_Met l M' d' 0 0 As [] (isO (some (.int x)) []))
    (hw : ∀ x ∈ [Cond.methodLink M.2.2.2.2 ix M'.1, Cond.static M'.1, Cond.initialized M'.1.cls, Cond.code M'.1 M'.2.1 M'.2.2.1 M'.2.2.2.1], x ∈ pm_tb)
    (hy : M'.1.cls ≠ "java/lang/invoke/MethodHandle" ∧ M'.1.cls ≠ "java/lang/invoke/VarHandle" ∧ (parseMethodDescriptor M'.1.desc).map (fun d => d.parameters.length) = some As.length)
    (kr : pm_J l M I d mc ms n O 0 0 (pc + 3, L, .int x :: rest, w))
    (hd : pm_find I.1 pc = some (.invokestatic ix, 3) := by rfl) (hst : st = (As.map (pm_v (pm_rn []))).reverse ++ rest := by rfl) (hn : w.length = n := by rfl)
    (hrest : Nat.ble (rest.map Value.category).sum 8 = true := by rfl) (hdd : Nat.ble (d' + 1) d = true := by rfl) (hml : Nat.ble M'.2.2.1 81 = true := by rfl) : pm_J l M I d mc ms n O 0 0 (pc, L, st, w) :=
  pm_J.cls [] hM hw hy kr hd hst rfl rfl hn hrest hdd hml
end RU2
end
section
section TR5
variable {l : Launch}
def TrI (ch : Nat → Nat) (s : trS) (od : Nat → Nat) : Prop := Bd ch ∧ ch 2 = 0 ∧ Bn s.1 ∧ Bn s.2.1 ∧ Bd s.2.2 ∧ Bn od
theorem Bn.Bd {f : Nat → Nat} (h : Bn f) : Bd f := fun j => by have := h j; omega
theorem Bn.up {f : Nat → Nat} (h : Bn f) {k v : Nat} (hv : v < 14) : Bn (upN f k v) := fun j => by
  unfold upN
  split
  · exact hv
  · exact h j
theorem inS_Bn {od : Nat → Nat} {nd fr : Nat} {s0 : trS} (hf : fr < 14) (h : Bn s0.1 ∧ Bn s0.2.1) : ∀ i, Bn (inS od nd fr s0 i).1.1 ∧ Bn (inS od nd fr s0 i).1.2.1
  | 0 => h
  | i + 1 => by
    have ih := inS_Bn (od := od) (nd := nd) hf h i
    unfold inS
    split
    · exact ih
    · refine ⟨?_, ?_⟩
      · show Bn (mrO _ _ _ _)
        unfold mrO; split
        · exact ih.1.up hf
        · exact ih.1
      · show Bn (mrT _ _ _ _ _)
        unfold mrT; split
        · exact ih.2
        · split
          · exact ih.2.up hf
          · exact ih.2
theorem insR_I {k nd inn : Nat} {s0 : trS} {od : Nat → Nat} (hk : k < 7) (hn : nd < 14) (h : Bn s0.1 ∧ Bn s0.2.1 ∧ Bd s0.2.2 ∧ Bn od) : Bn (insR k nd s0 od inn).1.1 ∧ Bn (insR k nd s0 od inn).1.2.1 ∧ Bd (insR k nd s0 od inn).1.2.2 ∧ Bn (insR k nd s0 od inn).2 := by
  have hb := inS_Bd (od := od) (nd := nd) (fr := 7 + k) (s0 := s0) (by omega) ⟨h.1.Bd, h.2.1.Bd, h.2.2.1⟩ inn
  have hc := inS_Bn (od := od) (nd := nd) (fr := 7 + k) (s0 := s0) (by omega) ⟨h.1, h.2.1⟩ inn
  refine ⟨hc.1.up (by omega), hc.2.up (by omega), hb.2.2.up (or128 (hb.2.2 _) (hb.2.2 _)), fun j => ?_⟩
  show upN (va_cpy od od _ _ _) _ (7 + k) j < 14
  unfold upN va_cpy
  split
  · omega
  · split
    · exact h.2.2.2 _
    · exact h.2.2.2 _
theorem grS_I {k x : Nat} {ch : Nat → Nat} {s0 : trS} {od : Nat → Nat} (h2 : ch 2 = 0) (hk : k ≤ 7) (h : Bn s0.1 ∧ Bn s0.2.1 ∧ Bd s0.2.2 ∧ Bn od) : ∀ i, i ≤ k → Bn (grS (choF k x ch) s0 od i).1.1 ∧ Bn (grS (choF k x ch) s0 od i).1.2.1 ∧ Bd (grS (choF k x ch) s0 od i).1.2.2 ∧ Bn (grS (choF k x ch) s0 od i).2
  | 0, _ => h
  | i + 1, hi => by
    have ih := grS_I (x := x) h2 hk h i (by omega)
    unfold grS
    split
    · exact h
    · exact insR_I (by omega) (node_lt h2 i (by omega) (by omega) (by omega)) ih
theorem grR_I {k x : Nat} {ch : Nat → Nat} {s0 : trS} {od : Nat → Nat} (hk : k ≤ 7) (h : TrI ch s0 od) : TrI (choF k x ch) (grR k x ch s0 od).1 (grR k x ch s0 od).2 := by
  obtain ⟨h1, h2, h3, h4, h5, h6⟩ := h
  obtain ⟨g1, g2, g3, g4⟩ := grS_I (k := k) (x := x) (s0 := (s0.1, s0.2.1, leF s0.2.2 k)) h2 hk ⟨h3, h4, leF_Bd h5 hk, h6⟩ k (Nat.le_refl _)
  exact ⟨choF_Bd k hk x ch h1, (choF_2 k x ch).trans h2, g1, g2, g3, g4⟩
theorem c_splitCount (hs : l.stackTraces = false) (ch on ot be : Nat → Int32) (se : Nat → Int64) (od : Nat → Int32) (inn : Nat) (h : 1 ≤ inn) : pm_Met l mX4_splitCount 1 0 0 [.ref 0] (trW ch on ot be se od (nI inn)) (isI (nI (inn - 1)) (trW ch on ot be se od (nI inn))) := by
  refine pm_Met.mk kX4_splitCount hs (pm_J.run [] 20 (fun K hK => hK _ ?_))
  exact pm_J.ri ⟨by rw [← pk_sub h]; rfl, rfl⟩
theorem c_splitAt (hs : l.stackTraces = false) (ch on ot : Nat → Int32) (be : Nat → Nat) (se : Nat → Int64) (od : Nat → Nat) (inn : Int32) (i : Nat) (hi : i < 7) (ho : Bn od) : pm_Met l mX4_splitAt 1 0 0 [.ref 0, .int (nI i)] (trW ch on ot (nA be) se (nA od) inn) (isI (nI (be (od i))) (trW ch on ot (nA be) se (nA od) inn)) := by
  have ei : (nI i).toNatClampNeg = i := nI_clamp (by omega)
  have eo : (nI (od i)).toNatClampNeg = od i := nI_clamp (by have := ho i; omega)
  refine pm_Met.mk kX4_splitAt hs (pm_J.run [] 20 (fun K hK => And.intro (vp_in_nI hi (by decide)) (And.intro (by rw [ei]; exact vp_in_nI (ho i) (by decide)) (hK _ ?_))))
  rw [ei, eo]
  exact pm_J.ri ⟨rfl, rfl⟩
def hasS (be od : Nat → Nat) (x : Int32) : Nat → Bool
  | 0 => false
  | i + 1 => hasS be od x i || decide (nI (be (od i)) = x)
theorem hasS_yes {be od : Nat → Nat} {x : Int32} {i : Nat} (h : nI (be (od i)) = x) : ∀ n, i < n → hasS be od x n = true
  | 0, hn => by omega
  | n + 1, hn => by
    unfold hasS
    rcases Nat.lt_or_ge i n with h1 | h1
    · rw [hasS_yes h n h1]; rfl
    · have : i = n := by omega
      subst this
      simp [h]
theorem c_hasSplit (hs : l.stackTraces = false) (ch on ot : Nat → Int32) (be : Nat → Nat) (se : Nat → Int64) (od : Nat → Nat) (inn : Nat) (x : Int32) (h1 : 1 ≤ inn) (h7 : inn ≤ 7) (ho : Bn od) : pm_Met l mX4_hasSplit 2 0 0 [.ref 0, .int x] (trW ch on ot (nA be) se (nA od) (nI inn)) (isI (nI (b2n (hasS be od x (inn - 1)))) (trW ch on ot (nA be) se (nA od) (nI inn))) := by
  refine pm_Met.mk kX4_hasSplit hs (pm_J.run [2] 20 (fun K hK => hK _ ?_))
  have key : hasS be od x 0 = false → pm_J l mX4_hasSplit iX4_hasSplit 2 0 0 7 (isI (nI (b2n (hasS be od x (inn - 1)))) (trW ch on ot (nA be) se (nA od) (nI inn))) 0 0 (2, [some (.ref 0), some (.int x), some (.int (nI 0))], [], trW ch on ot (nA be) se (nA od) (nI inn)) := by
    refine pm_up (b := inn - 1) (P := fun i => hasS be od x i = false → pm_J l mX4_hasSplit iX4_hasSplit 2 0 0 7 (isI (nI (b2n (hasS be od x (inn - 1)))) (trW ch on ot (nA be) se (nA od) (nI inn))) 0 0 (2, [some (.ref 0), some (.int x), some (.int (nI i))], [], trW ch on ot (nA be) se (nA od) (nI inn))) 0 (Nat.zero_le _) (fun hm => ?_) (fun i g1 g2 ih hm => ?_)
    · refine pm_J.run [2] 20 (fun K hK => hK _ ?_)
      refine pm_J.cI [0, 1, 2, 3, 4, 5, 6] (c_splitCount hs ch on ot (nA be) se (nA od) inn h1) gRX4_89 vX4_splitCount ?_
      refine pm_J.run [2] 20 (fun K hK => br_t (nI_le (Nat.le_refl _) (by omega)) (hK _ ?_))
      exact pm_J.ri ⟨by rw [hm]; rfl, rfl⟩
    · refine pm_J.run [2] 20 (fun K hK => hK _ ?_)
      refine pm_J.cI [0, 1, 2, 3, 4, 5, 6] (c_splitCount hs ch on ot (nA be) se (nA od) inn h1) gRX4_89 vX4_splitCount ?_
      refine pm_J.run [2] 20 (fun K hK => br_f (nI_ge g2 (by omega)) (hK _ ?_))
      refine pm_J.cI [0, 1, 2, 3, 4, 5, 6] (c_splitAt hs ch on ot be se od (nI inn) i (by omega) ho) gRX4_93 vX4_splitAt ?_
      refine pm_J.run [2] 20 (fun K hK => And.intro (fun q => hK _ ?_) (fun q => hK _ ?_))
      · have q' : ¬ nI (be (od i)) = x := q
        have := ih (by unfold hasS; rw [hm]; simp [q'])
        rw [← nI_add i 1] at this
        exact this
      · have q' : ¬ ¬ nI (be (od i)) = x := q
        exact pm_J.ri ⟨by rw [hasS_yes (Classical.not_not.mp q') _ g2]; rfl, rfl⟩
  exact key rfl
/-- a tree's cells from the place h on -/
abbrev trAt (h : Nat) (ch on ot be : Nat → Int32) (se : Nat → Int64) (od : Nat → Int32) (inn : Int32) : List pm_E := [.inr (4, [.ref (h + 1), .ref (h + 2), .ref (h + 3), .ref (h + 4), .ref (h + 5), .ref (h + 6), .int inn]), .inl (.int, 7, .inl ch), .inl (.int, 14, .inl on), .inl (.int, 14, .inl ot), .inl (.int, 14, .inl be), .inl (.long, 14, .inr (.inl se)), .inl (.int, 7, .inl od)]
def notIn (be od be2 od2 : Nat → Nat) (n2 : Nat) : Nat → Nat
  | 0 => 0
  | i + 1 => notIn be od be2 od2 n2 i + (if hasS be2 od2 (nI (be (od i))) n2 then 0 else 1)
theorem c_notIn (hs : l.stackTraces = false) (ch on ot : Nat → Int32) (be : Nat → Nat) (se : Nat → Int64) (od : Nat → Nat) (ch2 on2 ot2 : Nat → Int32) (be2 : Nat → Nat) (se2 : Nat → Int64) (od2 : Nat → Nat) (inn : Nat) (h1 : 1 ≤ inn) (h7 : inn ≤ 7) (ho : Bn od) (ho2 : Bn od2) :
    pm_Met l mX4_splitsNotIn 3 0 0 [.ref 0, .ref 7] (trW ch on ot (nA be) se (nA od) (nI inn) ++ trAt 7 ch2 on2 ot2 (nA be2) se2 (nA od2) (nI inn)) (isI (nI (notIn be od be2 od2 (inn - 1) (inn - 1))) (trW ch on ot (nA be) se (nA od) (nI inn) ++ trAt 7 ch2 on2 ot2 (nA be2) se2 (nA od2) (nI inn))) := by
  refine pm_Met.mk kX4_splitsNotIn hs (pm_J.run [4] 20 (fun K hK => hK _ ?_))
  refine pm_up (b := inn - 1) (P := fun i => pm_J l mX4_splitsNotIn iX4_splitsNotIn 3 0 0 14 (isI (nI (notIn be od be2 od2 (inn - 1) (inn - 1))) (trW ch on ot (nA be) se (nA od) (nI inn) ++ trAt 7 ch2 on2 ot2 (nA be2) se2 (nA od2) (nI inn))) 0 0 (4, [some (.ref 0), some (.ref 7), some (.int (nI (notIn be od be2 od2 (inn - 1) i))), some (.int (nI i))], [], trW ch on ot (nA be) se (nA od) (nI inn) ++ trAt 7 ch2 on2 ot2 (nA be2) se2 (nA od2) (nI inn))) 0 (Nat.zero_le _) ?_ (fun i g1 g2 ih => ?_)
  · refine pm_J.run [4] 20 (fun K hK => hK _ ?_)
    refine pm_J.cI [0, 1, 2, 3, 4, 5, 6] (c_splitCount hs ch on ot (nA be) se (nA od) inn h1) gRX4_89 vX4_splitCount ?_
    refine pm_J.run [4] 20 (fun K hK => br_t (nI_le (Nat.le_refl _) (by omega)) (hK _ ?_))
    exact pm_J.ri ⟨rfl, rfl⟩
  · refine pm_J.run [4] 20 (fun K hK => hK _ ?_)
    refine pm_J.cI [0, 1, 2, 3, 4, 5, 6] (c_splitCount hs ch on ot (nA be) se (nA od) inn h1) gRX4_89 vX4_splitCount ?_
    refine pm_J.run [4] 20 (fun K hK => br_f (nI_ge g2 (by omega)) (hK _ ?_))
    refine pm_J.cI [0, 1, 2, 3, 4, 5, 6] (c_splitAt hs ch on ot be se od (nI inn) i (by omega) ho) gRX4_93 vX4_splitAt ?_
    refine pm_J.cI [7, 8, 9, 10, 11, 12, 13] (c_hasSplit hs ch2 on2 ot2 be2 se2 od2 inn (nI (be (od i))) h1 h7 ho2) gRX4_96 vX4_hasSplit ?_
    have e : notIn be od be2 od2 (inn - 1) (i + 1) = notIn be od be2 od2 (inn - 1) i + (if hasS be2 od2 (nI (be (od i))) (inn - 1) then 0 else 1) := rfl
    rw [e, ← nI_add i 1] at ih
    refine pm_J.run [4] 20 (fun K hK => And.intro (fun q => hK _ ?_) (fun q => hK _ ?_))
    · have q' : ¬ nI (b2n (hasS be2 od2 (nI (be (od i))) (inn - 1))) = 0 := q
      cases hm : hasS be2 od2 (nI (be (od i))) (inn - 1) with
      | false => rw [hm] at q'; exact absurd (by decide) q'
      | true =>
        rw [hm, if_pos rfl, Nat.add_zero] at ih
        exact ih
    · have q' : ¬ ¬ nI (b2n (hasS be2 od2 (nI (be (od i))) (inn - 1))) = 0 := q
      cases hm : hasS be2 od2 (nI (be (od i))) (inn - 1) with
      | true => rw [hm] at q'; exact absurd (by decide) q'
      | false =>
        rw [hm, if_neg (by decide), ← nI_add _ 1] at ih
        exact ih
/-- a tree grown and its length -/
theorem c_measure (hs : l.stackTraces = false) (ch : Nat → Nat) (s0 : trS) (se : Nat → Int64) (od : Nat → Nat) (inn x : Nat) (r : Nat → Int64) (wt : Nat → Nat) (k c : Nat) (hT : TrI ch s0 od) (hx : x < 2 ^ 31) (hk3 : 3 ≤ k) (hk : k ≤ 7) (hc : c ≤ 16) :
    pm_Met l mX4_growAndMeasure 4 0 0 [.ref 0, .int (nI x), .ref 7] (trW' ch s0 se od inn ++ tbAt 7 r wt k c)
      (isI (nI (wsum (pkR (grR k x ch s0 od).1.1 (grR k x ch s0 od).1.2.1 (grR k x ch s0 od).2 (seF r se k) (k - 2)) wt c)) (trW' (choF k x ch) (grR k x ch s0 od).1 (pkS (grR k x ch s0 od).1.1 (grR k x ch s0 od).1.2.1 (grR k x ch s0 od).2 (seF r se k) (k - 2)).2.2 (grR k x ch s0 od).2 (k - 2) ++ tbAt 7 r wt k c)) := by
  obtain ⟨t1, t2, t3, t4, t5, t6⟩ := grR_I (x := x) hk hT
  obtain ⟨u1, u2, u3, u4, u5, u6⟩ := hT
  refine pm_Met.mk kX4_growAndMeasure hs (pm_J.run [] 20 (fun K hK => hK _ ?_))
  refine pm_J.cv [0, 1, 2, 3, 4, 5, 6] (trW' (choF k x ch) (grR k x ch s0 od).1 se (grR k x ch s0 od).2 (k - 2) ++ tbAt 7 r wt k c) (c_grow hs ch s0 se od inn x k u1 u2 ⟨u3.Bd, u4.Bd, u5⟩ hx hk3 hk) gRX4_51 vX4_grow ?_
  refine pm_J.run [] 20 (fun K hK => hK _ ?_)
  refine pm_J.cLw [0, 1, 2, 3, 4, 5, 6, 7, 8, 9] (trW' (choF k x ch) (grR k x ch s0 od).1 (pkS (grR k x ch s0 od).1.1 (grR k x ch s0 od).1.2.1 (grR k x ch s0 od).2 (seF r se k) (k - 2)).2.2 (grR k x ch s0 od).2 (k - 2) ++ tbAt 7 r wt k c) (c_packed hs (nA (choF k x ch)) (nA (grR k x ch s0 od).1.2.2) (grR k x ch s0 od).1.1 (grR k x ch s0 od).1.2.1 (grR k x ch s0 od).2 se (k - 2) r wt k c hk (by omega) t3 t4 t6) gRX4_54 vX4_packedChanges ?_
  refine pm_J.cI [7, 8, 9] (c_weighed hs r wt k c hc _) gRX4_58 vX2_weighed ?_
  exact pm_J.ri ⟨rfl, rfl⟩
end TR5
end
section
section CAN
/-- the live parts of two growing trees agree: inner nodes 9 .. 6 + i, the leaves, the order -/
def AgT (k i : Nat) (s t : trS) : Prop := (∀ j, 9 ≤ j → j < 7 + i → s.1 j = t.1 j ∧ s.2.1 j = t.2.1 j ∧ s.2.2 j = t.2.2 j) ∧ ∀ j, j < k → s.2.2 j = t.2.2 j
def AgO (i : Nat) (od od' : Nat → Nat) : Prop := ∀ j, j < i - 2 → od j = od' j ∧ 9 ≤ od' j ∧ od' j < 7 + i
theorem AgT.mr {k i : Nat} {s t : trS} (h : AgT k i s t) {hd nd : Nat} (hh : 9 ≤ hd) (hh2 : hd < 7 + i) (hn : nd < k ∨ (9 ≤ nd ∧ nd < 7 + i)) (hi : i < k) (hk : k ≤ 7) :
    AgT k i (mrO s.1 hd nd (7 + i), mrT s.1 s.2.1 hd nd (7 + i), mrB s.2.2 hd nd (7 + i)) (mrO t.1 hd nd (7 + i), mrT t.1 t.2.1 hd nd (7 + i), mrB t.2.2 hd nd (7 + i)) := by
  obtain ⟨a1, a2, a3⟩ := h.1 hd hh hh2
  have hnd : s.2.2 nd = t.2.2 nd := by
    rcases hn with hn | hn
    · exact h.2 nd hn
    · exact (h.1 nd hn.1 hn.2).2.2
  have hlf : s.2.2 (7 + i - 7) = t.2.2 (7 + i - 7) := by rw [show 7 + i - 7 = i by omega]; exact h.2 i hi
  have eo : ∀ j, 9 ≤ j → j < 7 + i → mrO s.1 hd nd (7 + i) j = mrO t.1 hd nd (7 + i) j := by
    intro j h1 h2
    unfold mrO
    rw [a1]
    split
    · unfold upN; split
      · rfl
      · exact (h.1 j h1 h2).1
    · exact (h.1 j h1 h2).1
  have et : ∀ j, 9 ≤ j → j < 7 + i → mrT s.1 s.2.1 hd nd (7 + i) j = mrT t.1 t.2.1 hd nd (7 + i) j := by
    intro j h1 h2
    unfold mrT
    rw [a1, a2]
    split
    · exact (h.1 j h1 h2).2.1
    · split
      · unfold upN; split
        · rfl
        · exact (h.1 j h1 h2).2.1
      · exact (h.1 j h1 h2).2.1
  have eb : ∀ j, s.2.2 j = t.2.2 j → mrB s.2.2 hd nd (7 + i) j = mrB t.2.2 hd nd (7 + i) j := by
    intro j hj
    unfold mrB
    rw [a3, hnd, hlf]
    split
    · unfold upN; split
      · rfl
      · exact hj
    · exact hj
  exact ⟨fun j h1 h2 => ⟨eo j h1 h2, et j h1 h2, eb j (h.1 j h1 h2).2.2⟩, fun j hj => eb j (h.2 j hj)⟩
theorem agT_inS {k i : Nat} {s t : trS} {od od' : Nat → Nat} (h : AgT k i s t) (ho : AgO i od od') {nd : Nat} (hn : nd < k ∨ (9 ≤ nd ∧ nd < 7 + i)) (hi : i < k) (hk : k ≤ 7) :
    ∀ p, p ≤ i - 2 → AgT k i (inS od nd (7 + i) s p).1 (inS od' nd (7 + i) t p).1 ∧ (inS od nd (7 + i) s p).2 = (inS od' nd (7 + i) t p).2
  | 0, _ => ⟨h, rfl⟩
  | p + 1, hp => by
    obtain ⟨ih1, ih2⟩ := agT_inS h ho hn hi hk p (by omega)
    obtain ⟨o1, o2, o3⟩ := ho p (by omega)
    rw [inS, inS, o1]
    split
    · exact ⟨ih1, rfl⟩
    · exact ⟨ih1.mr o2 o3 hn hi hk, ih2⟩
theorem agT_insR {k i : Nat} {s t : trS} {od od' : Nat → Nat} (h : AgT k i s t) (ho : AgO i od od') {nd : Nat} (hn : nd < k ∨ (9 ≤ nd ∧ nd < 7 + i)) (hi2 : 2 ≤ i) (hi : i < k) (hk : k ≤ 7) :
    AgT k (i + 1) (insR i nd s od (i - 2)).1 (insR i nd t od' (i - 2)).1 ∧ AgO (i + 1) (insR i nd s od (i - 2)).2 (insR i nd t od' (i - 2)).2 := by
  obtain ⟨g1, g2⟩ := agT_inS h ho hn hi hk (i - 2) (Nat.le_refl _)
  have hp := inS_le od' nd (7 + i) t (i - 2)
  unfold insR
  dsimp only
  rw [g2]
  generalize inS od nd (7 + i) s (i - 2) = a at g1 ⊢
  generalize inS od' nd (7 + i) t (i - 2) = b at g1 hp ⊢
  obtain ⟨a, pa⟩ := a
  obtain ⟨b, pl⟩ := b
  dsimp only at g1 hp ⊢
  have hnd : a.2.2 nd = b.2.2 nd := by
    rcases hn with hn | hn
    · exact g1.2 nd hn
    · exact (g1.1 nd hn.1 hn.2).2.2
  have hlf : a.2.2 i = b.2.2 i := g1.2 i hi
  refine ⟨⟨fun j h1 h2 => ?_, fun j hj => ?_⟩, fun j hj => ?_⟩
  · unfold upN
    dsimp only
    by_cases e : j = 7 + i
    · subst e; simp only [if_true, hnd, hlf, and_self]
    · simp only [e, if_false]
      exact g1.1 j h1 (by omega)
  · unfold upN
    dsimp only
    rw [if_neg (by omega), if_neg (by omega)]
    exact g1.2 j hj
  · unfold upN va_cpy
    by_cases e : j = pl
    · subst e; rw [if_pos rfl, if_pos rfl]; omega
    · rw [if_neg e, if_neg e]
      split
      · have := ho (pl + (j - (pl + 1))) (by omega)
        omega
      · have := ho j (by omega)
        omega
def cz : Nat → Nat := fun _ => 0
theorem choF_at (k : Nat) : ∀ (x : Nat) (ch ch' : Nat → Nat) (i : Nat), 3 ≤ i → i < k → choF k x ch i = choF k x ch' i := by
  induction k with
  | zero => intro x ch ch' i h1 h2; omega
  | succ k ih =>
    intro x ch ch' i h1 h2
    have hout : ∀ (n : Nat) (x : Nat) (c : Nat → Nat) (i : Nat), n ≤ i → choF n x c i = c i := by
      intro n
      induction n with
      | zero => intro x c i _; rfl
      | succ n ih2 =>
        intro x c i hi
        rw [choF_s]
        split
        · rfl
        · rw [ih2 _ _ _ (by omega), upN_n (by omega)]
    rw [choF_s, choF_s, if_neg (by omega), if_neg (by omega)]
    by_cases h3 : i = k
    · subst h3
      rw [hout i _ _ i (Nat.le_refl _), hout i _ _ i (Nat.le_refl _), upN_s, upN_s]
    · exact ih _ _ _ i h1 (by omega)
theorem node_at {k x : Nat} {ch : Nat → Nat} (h2 : ch 2 = 0) (i : Nat) (hi2 : 2 ≤ i) (hik : i < k) : nodeF (choF k x ch) i = nodeF (choF k x cz) i := by
  have : choF k x ch i = choF k x cz i := by
    by_cases h : i = 2
    · subst h; rw [choF_2, choF_2, h2]; rfl
    · exact choF_at k x ch cz i (by omega) hik
  unfold nodeF
  rw [this]
theorem node_live {k x : Nat} (i : Nat) (hi2 : 2 ≤ i) (hik : i < k) : nodeF (choF k x cz) i < k ∨ (9 ≤ nodeF (choF k x cz) i ∧ nodeF (choF k x cz) i < 7 + i) := by
  unfold nodeF
  by_cases h : i = 2
  · subst h
    rw [choF_2]
    left
    show (if cz 2 < 2 - 1 then cz 2 + 1 else 10 + cz 2 - 2) < k
    rw [if_pos (by decide)]
    show 1 < k
    omega
  · have := choF_lt k x cz i (by omega) hik
    split
    · left; omega
    · right; omega
abbrev tz : trS := (cz, cz, cz)
/-- the tree of a number, grown on bare rows -/
abbrev gz (k x : Nat) : trS × (Nat → Nat) := grR k x cz tz cz
theorem agT_grS {k x : Nat} {ch : Nat → Nat} {s0 t0 : trS} {od od' : Nat → Nat} (h2 : ch 2 = 0) (hk : k ≤ 7) (h0 : ∀ j, j < k → s0.2.2 j = t0.2.2 j) :
    ∀ i, i ≤ k → AgT k i (grS (choF k x ch) s0 od i).1 (grS (choF k x cz) t0 od' i).1 ∧ AgO i (grS (choF k x ch) s0 od i).2 (grS (choF k x cz) t0 od' i).2
  | 0, _ => ⟨⟨fun j h1 h2 => by omega, h0⟩, fun j hj => by omega⟩
  | i + 1, hi => by
    obtain ⟨ih1, ih2⟩ := agT_grS (x := x) (od := od) (od' := od') h2 hk h0 i (by omega)
    by_cases h : i < 2
    · rw [grS, grS, if_pos h, if_pos h]
      exact ⟨⟨fun j h1 h2 => by omega, h0⟩, fun j hj => by omega⟩
    · rw [grS, grS, if_neg h, if_neg h, node_at h2 i (by omega) (by omega)]
      exact agT_insR ih1 ih2 (node_live i (by omega) (by omega)) (by omega) (by omega) hk
theorem grR_gz {k x : Nat} {ch : Nat → Nat} {s0 : trS} {od : Nat → Nat} (h2 : ch 2 = 0) (hk : k ≤ 7) : AgT k k (grR k x ch s0 od).1 (gz k x).1 ∧ AgO k (grR k x ch s0 od).2 (gz k x).2 :=
  agT_grS h2 hk (fun j hj => by show leF _ k j = leF _ k j; unfold leF; rw [if_pos hj, if_pos hj]) k (Nat.le_refl _)
/-- the splits of a tree, as grow has them -/
def spz (k x i : Nat) : Nat := (gz k x).1.2.2 ((gz k x).2 i)
theorem grR_sp {k x : Nat} {ch : Nat → Nat} {s0 : trS} {od : Nat → Nat} (h2 : ch 2 = 0) (hk : k ≤ 7) {i : Nat} (hi : i < k - 2) : (grR k x ch s0 od).1.2.2 ((grR k x ch s0 od).2 i) = spz k x i := by
  obtain ⟨g1, g2⟩ := grR_gz (x := x) (s0 := s0) (od := od) h2 hk
  obtain ⟨o1, o2, o3⟩ := g2 i hi
  rw [o1]
  exact (g1.1 _ o2 o3).2.2
end CAN
end
section
section CA2
/-- children stand before their parents in the order -/
def kidOk (k : Nat) (od : Nat → Nat) (i c : Nat) : Bool := decide (c < k) || (List.range i).any (fun j => decide (od j = c))
def wfz (k x : Nat) : Bool := (List.range (k - 2)).all (fun i => kidOk k (gz k x).2 i ((gz k x).1.1 ((gz k x).2 i)) && kidOk k (gz k x).2 i ((gz k x).1.2.1 ((gz k x).2 i)))
theorem wfz_3 : (List.range 1).all (wfz 3) = true := by decide +kernel
theorem wfz_4 : (List.range 3).all (wfz 4) = true := by decide +kernel
theorem wfz_5 : (List.range 15).all (wfz 5) = true := by decide +kernel
theorem wfz_6 : (List.range 105).all (wfz 6) = true := by decide +kernel
theorem wfz_7 : (List.range 945).all (wfz 7) = true := by decide +kernel
/-- a thing that is checked for all trees -/
theorem all_trees {P : Nat → Nat → Bool} (h3 : (List.range 1).all (P 3) = true) (h4 : (List.range 3).all (P 4) = true) (h5 : (List.range 15).all (P 5) = true) (h6 : (List.range 105).all (P 6) = true) (h7 : (List.range 945).all (P 7) = true) {k x : Nat} (hk3 : 3 ≤ k) (hk : k ≤ 7) (hx : x < tcount k) : P k x = true := by
  have hk' : k = 3 ∨ k = 4 ∨ k = 5 ∨ k = 6 ∨ k = 7 := by omega
  rcases hk' with rfl | rfl | rfl | rfl | rfl
  · exact List.all_eq_true.mp h3 x (List.mem_range.mpr hx)
  · exact List.all_eq_true.mp h4 x (List.mem_range.mpr hx)
  · exact List.all_eq_true.mp h5 x (List.mem_range.mpr hx)
  · exact List.all_eq_true.mp h6 x (List.mem_range.mpr hx)
  · exact List.all_eq_true.mp h7 x (List.mem_range.mpr hx)
theorem wfz_ok {k x : Nat} (hk3 : 3 ≤ k) (hk : k ≤ 7) (hx : x < tcount k) : wfz k x = true := all_trees wfz_3 wfz_4 wfz_5 wfz_6 wfz_7 hk3 hk hx
theorem kid_use {k i c : Nat} {od : Nat → Nat} (h : kidOk k od i c = true) : c < k ∨ ∃ j, j < i ∧ od j = c := by
  unfold kidOk at h
  simp only [Bool.or_eq_true, decide_eq_true_eq, List.any_eq_true, List.mem_range] at h
  exact h
theorem wfz_kids {k x i : Nat} (h : wfz k x = true) (hi : i < k - 2) : ((gz k x).1.1 ((gz k x).2 i) < k ∨ ∃ j, j < i ∧ (gz k x).2 j = (gz k x).1.1 ((gz k x).2 i)) ∧ ((gz k x).1.2.1 ((gz k x).2 i) < k ∨ ∃ j, j < i ∧ (gz k x).2 j = (gz k x).1.2.1 ((gz k x).2 i)) := by
  have := List.all_eq_true.mp h i (List.mem_range.mpr hi)
  simp only [Bool.and_eq_true] at this
  exact ⟨kid_use this.1, kid_use this.2⟩
theorem pk_agree {k x : Nat} {s : trS} {od : Nat → Nat} {se se' : Nat → Int64} (hk3 : 3 ≤ k) (hk : k ≤ 7) (hx : x < tcount k) (hT : AgT k k s (gz k x).1) (hO : AgO k od (gz k x).2) (hse : ∀ j, j < k → se j = se' j) :
    ∀ i, i ≤ k - 2 → (pkS s.1 s.2.1 od se i).1 = (pkS (gz k x).1.1 (gz k x).1.2.1 (gz k x).2 se' i).1 ∧ (pkS s.1 s.2.1 od se i).2.1 = (pkS (gz k x).1.1 (gz k x).1.2.1 (gz k x).2 se' i).2.1 ∧
      (∀ j, j < k → (pkS s.1 s.2.1 od se i).2.2 j = (pkS (gz k x).1.1 (gz k x).1.2.1 (gz k x).2 se' i).2.2 j) ∧ ∀ j, j < i → (pkS s.1 s.2.1 od se i).2.2 ((gz k x).2 j) = (pkS (gz k x).1.1 (gz k x).1.2.1 (gz k x).2 se' i).2.2 ((gz k x).2 j)
  | 0, _ => ⟨rfl, rfl, hse, fun j hj => by omega⟩
  | i + 1, hi => by
    obtain ⟨ih1, ih2, ih3, ih4⟩ := pk_agree hk3 hk hx hT hO hse i (by omega)
    obtain ⟨o1, o2, o3⟩ := hO i (by omega)
    obtain ⟨t1, t2, -⟩ := hT.1 _ o2 o3
    obtain ⟨c1, c2⟩ := wfz_kids (wfz_ok hk3 hk hx) (i := i) (by omega)
    have kid : ∀ c, (c < k ∨ ∃ j, j < i ∧ (gz k x).2 j = c) → (pkS s.1 s.2.1 od se i).2.2 c = (pkS (gz k x).1.1 (gz k x).1.2.1 (gz k x).2 se' i).2.2 c := by
      intro c hc
      rcases hc with hc | ⟨j, hj, rfl⟩
      · exact ih3 c hc
      · exact ih4 j hj
    have e1 := kid _ c1
    have e2 := kid _ c2
    unfold pkS
    rw [o1, t1, t2, e1, e2, ih1]
    refine ⟨rfl, rfl, fun j hj => ?_, fun j hj => ?_⟩
    · dsimp only
      rw [pk_uLn (by omega), pk_uLn (by omega)]
      exact ih3 j hj
    · dsimp only
      by_cases e : (gz k x).2 j = (gz k x).2 i
      · rw [e, pk_uLs, pk_uLs]
      · rw [pk_uLn e, pk_uLn e]
        rcases Nat.lt_or_ge j i with h | h
        · exact ih4 j h
        · exact absurd (by rw [show j = i by omega]) e
/-- a tree's changes, packed, on bare rows -/
def lenP (r : Nat → Int64) (k x : Nat) : Int64 := pkR (gz k x).1.1 (gz k x).1.2.1 (gz k x).2 (seF r (fun _ => 0) k) (k - 2)
theorem pk_canon {k x : Nat} {ch : Nat → Nat} {s0 : trS} {od : Nat → Nat} (r se : Nat → Int64) (h2 : ch 2 = 0) (hk3 : 3 ≤ k) (hk : k ≤ 7) (hx : x < tcount k) : pkR (grR k x ch s0 od).1.1 (grR k x ch s0 od).1.2.1 (grR k x ch s0 od).2 (seF r se k) (k - 2) = lenP r k x := by
  obtain ⟨g1, g2⟩ := grR_gz (x := x) (s0 := s0) (od := od) h2 hk
  have hse : ∀ j, j < k → seF r se k j = seF r (fun _ => 0) k j := fun j hj => by unfold seF; rw [if_pos hj, if_pos hj]
  obtain ⟨a1, a2, a3, a4⟩ := pk_agree hk3 hk hx g1 g2 hse (k - 2) (Nat.le_refl _)
  unfold lenP pkR
  rw [a1, a2, a3 0 (by omega)]
  congr 2
  have ht : (pkS (gz k x).1.1 (gz k x).1.2.1 (gz k x).2 (seF r (fun _ => 0) k) (k - 2)).2.1 = (gz k x).2 (k - 3) := by
    have : k - 2 = (k - 3) + 1 := by omega
    rw [this]
    rfl
  rw [ht]
  exact a4 (k - 3) (by omega)
end CA2
end
section
section FND
variable {l : Launch}
abbrev fnW (nu ta : Nat → Int32) (cnt : Int32) : List pm_E := [.inr (0, [.ref 1, .ref 2, .int cnt]), .inl (.int, 945, .inl nu), .inl (.int, 128, .inl ta)]
theorem c_forget (hs : l.stackTraces = false) (nu ta : Nat → Int32) (cnt : Int32) : pm_Met l mX0_forget 1 0 0 [.ref 0] (fnW nu ta cnt) (isO none (fnW nu ta (nI 0))) := by
  refine pm_Met.mk kX0_forget hs (pm_J.run [] 20 (fun K hK => hK _ ?_))
  exact pm_J.rv ⟨rfl, rfl⟩
theorem wsum_lt {x : Int64} {wt : Nat → Nat} (hw : Bd wt) : ∀ c, wsum x wt c ≤ c * 2048
  | 0 => Nat.le_refl _
  | c + 1 => by
    have ih := wsum_lt (x := x) hw c
    have h1 := lane_lt x c
    have h2 := hw c
    have h3 : lane x c * wt c ≤ 15 * 127 := Nat.mul_le_mul (by omega) (by omega)
    unfold wsum
    omega
/-- a tree's length -/
def lenT (r : Nat → Int64) (wt : Nat → Nat) (k c x : Nat) : Nat := wsum (lenP r k x) wt c
theorem lenT_lt {r : Nat → Int64} {wt : Nat → Nat} {k c x : Nat} (hw : Bd wt) (hc : c ≤ 16) : lenT r wt k c x < 2 ^ 30 := by
  have := wsum_lt (x := lenP r k x) hw c
  unfold lenT
  omega
/-- any tree's cells -/
def isTr (w : List pm_E) : Prop := ∃ ch s se od inn, TrI ch s od ∧ w = trW' ch s se od inn
abbrev trAt' (h : Nat) (ch : Nat → Nat) (s : trS) (se : Nat → Int64) (od : Nat → Nat) (inn : Nat) : List pm_E := trAt h (nA ch) (nA s.1) (nA s.2.1) (nA s.2.2) se (nA od) (nI inn)
def gaS (f : Nat → Nat) (nu : Nat → Nat) : Nat → Nat × Nat × (Nat → Nat)
  | 0 => (0, 0, nu)
  | i + 1 => if (gaS f nu i).2.1 = 0 ∨ f i < (gaS f nu i).1 then (f i, 1, upN (gaS f nu i).2.2 0 i)
    else if f i = (gaS f nu i).1 then ((gaS f nu i).1, (gaS f nu i).2.1 + 1, upN (gaS f nu i).2.2 (gaS f nu i).2.1 i) else gaS f nu i
theorem gaS_le (f nu : Nat → Nat) : ∀ i, (gaS f nu i).2.1 ≤ i
  | 0 => Nat.le_refl _
  | i + 1 => by
    have := gaS_le f nu i
    unfold gaS
    split
    · show 1 ≤ i + 1; omega
    · split
      · show (gaS f nu i).2.1 + 1 ≤ i + 1; omega
      · omega
theorem gaS_min {f nu : Nat → Nat} {B : Nat} (hB : 0 < B) (h : ∀ i, f i < B) : ∀ i, (gaS f nu i).1 < B
  | 0 => hB
  | i + 1 => by
    have := gaS_min (nu := nu) hB h i
    unfold gaS
    split
    · exact h i
    · split
      · exact this
      · exact this
theorem gaS_num {f nu : Nat → Nat} : ∀ i j, j < (gaS f nu i).2.1 → (gaS f nu i).2.2 j < i
  | 0, j, h => absurd h (Nat.not_lt_zero _)
  | i + 1, j, h => by
    have ih := gaS_num (f := f) (nu := nu) i
    unfold gaS at h ⊢
    split at h
    · rename_i hq
      rw [if_pos hq]
      have : j = 0 := by have h' : j < 1 := h; omega
      subst this
      show upN (gaS f nu i).2.2 0 i 0 < i + 1
      rw [upN_s]; omega
    · rename_i hq
      rw [if_neg hq]
      split at h
      · rename_i hq2
        rw [if_pos hq2]
        show upN (gaS f nu i).2.2 (gaS f nu i).2.1 i j < i + 1
        have h' : j < (gaS f nu i).2.1 + 1 := h
        by_cases e : j = (gaS f nu i).2.1
        · rw [e, upN_s]; omega
        · rw [upN_n e]
          have := ih j (by omega)
          omega
      · rename_i hq2
        rw [if_neg hq2]
        have := ih j h
        omega
def taI (sp : Nat → Nat) (t : Nat → Nat) : Nat → (Nat → Nat)
  | 0 => t
  | j + 1 => upN (taI sp t j) (sp j) (taI sp t j (sp j) + 1)
def taS (k : Nat) (nu t : Nat → Nat) : Nat → (Nat → Nat)
  | 0 => t
  | i + 1 => taI (spz k (nu i)) (taS k nu t i) (k - 3)
theorem spz_lt {k x i : Nat} (hk : k ≤ 7) : spz k x i < 128 := by
  have := (grR_I (x := x) hk (ch := cz) (s0 := tz) (od := cz) ⟨fun _ => (by decide : 0 < 128), rfl, fun _ => (by decide : 0 < 14), fun _ => (by decide : 0 < 14), fun _ => (by decide : 0 < 128), fun _ => (by decide : 0 < 14)⟩).2.2.2.2.1
  exact this _
set_option maxHeartbeats 1000000 in
theorem c_tally (hs : l.stackTraces = false) (nu ta : Nat → Nat) (cnt k : Nat) (ch : Nat → Nat) (s : trS) (se : Nat → Int64) (od : Nat → Nat) (inn : Nat) (hT : TrI ch s od) (hk3 : 3 ≤ k) (hk : k ≤ 7) (hc : cnt ≤ 945) (hnu : ∀ i, i < cnt → nu i < 945) :
    pm_Met l mX0_tallySplits 4 0 0 [.ref 0, .int (nI k), .ref 3] (fnW (nA nu) (nA ta) (nI cnt) ++ trAt' 3 ch s se od inn)
      (fun o w' => o = .inl none ∧ ∃ ch2 s2 se2 od2 inn2, TrI ch2 s2 od2 ∧ w' = fnW (nA nu) (nA (taS k nu (fun j => if j < 128 then 0 else ta j) cnt)) (nI cnt) ++ trAt' 3 ch2 s2 se2 od2 inn2) := by
  refine pm_Met.mk kX0_tallySplits hs (pm_J.run [] 20 (fun K hK => hK _ ?_))
  refine pm_J.cls [2] (fillI_go hs ta 128 (by decide) 0) gRX0_41 vJ7_fill_53178 ?_
  refine pm_J.run [10] 20 (fun K hK => hK _ ?_)
  generalize hO : (fun (o : pm_O) (w' : List pm_E) => o = .inl none ∧ ∃ ch2 s2 se2 od2 inn2, TrI ch2 s2 od2 ∧ w' = fnW (nA nu) (nA (taS k nu (fun j => if j < 128 then 0 else ta j) cnt)) (nI cnt) ++ trAt' 3 ch2 s2 se2 od2 inn2) = O
  have key : ∀ ch s se od inn, TrI ch s od → ∀ x4, pm_J l mX0_tallySplits iX0_tallySplits 4 0 0 10 O 0 0 (10, [some (.ref 0), some (.int (nI k)), some (.ref 3), some (.int (nI 0)), x4], [], fnW (nA nu) (nA (taS k nu (fun j => if j < 128 then 0 else ta j) 0)) (nI cnt) ++ trAt' 3 ch s se od inn) := by
    refine pm_up (b := cnt) (P := fun i => ∀ ch s se od inn, TrI ch s od → ∀ x4, pm_J l mX0_tallySplits iX0_tallySplits 4 0 0 10 O 0 0 (10, [some (.ref 0), some (.int (nI k)), some (.ref 3), some (.int (nI i)), x4], [], fnW (nA nu) (nA (taS k nu (fun j => if j < 128 then 0 else ta j) i)) (nI cnt) ++ trAt' 3 ch s se od inn)) 0 (Nat.zero_le _) (fun ch s se od inn hT x4 => ?_) (fun i h1 h2 ih ch s se od inn hT x4 => ?_)
    · refine pm_J.run [10] 20 (fun K hK => br_t (nI_le (Nat.le_refl _) (by omega)) (hK _ ?_))
      refine pm_J.rv ?_
      rw [← hO]
      exact ⟨rfl, ch, s, se, od, inn, hT, rfl⟩
    · have hni := hnu i h2
      have hT2 := grR_I (x := nu i) hk hT
      obtain ⟨u1, u2, u3, u4, u5, u6⟩ := id hT
      refine pm_J.run [10] 20 (fun K hK => br_f (nI_ge h2 (by omega)) (And.intro (vp_in_nI (by omega) (by decide)) (hK _ ?_)))
      rw [nI_clamp (by omega)]
      refine pm_J.cv [3, 4, 5, 6, 7, 8, 9] (fnW (nA nu) (nA (taS k nu (fun j => if j < 128 then 0 else ta j) i)) (nI cnt) ++ trAt' 3 (choF k (nu i) ch) (grR k (nu i) ch s od).1 se (grR k (nu i) ch s od).2 (k - 2)) (c_grow hs ch s se od inn (nu i) k u1 u2 ⟨u3.Bd, u4.Bd, u5⟩ (by omega) hk3 hk) gRX0_47 vX4_grow ?_
      refine pm_J.run [32] 20 (fun K hK => hK _ ?_)
      have inner : pm_J l mX0_tallySplits iX0_tallySplits 4 0 0 10 O 0 0 (32, [some (.ref 0), some (.int (nI k)), some (.ref 3), some (.int (nI i)), some (.int (nI 0))], [], fnW (nA nu) (nA (taI (spz k (nu i)) (taS k nu (fun j => if j < 128 then 0 else ta j) i) 0)) (nI cnt) ++ trAt' 3 (choF k (nu i) ch) (grR k (nu i) ch s od).1 se (grR k (nu i) ch s od).2 (k - 2)) := by
        refine pm_up (b := k - 3) (P := fun j => pm_J l mX0_tallySplits iX0_tallySplits 4 0 0 10 O 0 0 (32, [some (.ref 0), some (.int (nI k)), some (.ref 3), some (.int (nI i)), some (.int (nI j))], [], fnW (nA nu) (nA (taI (spz k (nu i)) (taS k nu (fun j => if j < 128 then 0 else ta j) i) j)) (nI cnt) ++ trAt' 3 (choF k (nu i) ch) (grR k (nu i) ch s od).1 se (grR k (nu i) ch s od).2 (k - 2))) 0 (Nat.zero_le _) ?_ (fun j g1 g2 ih2 => ?_)
        · refine pm_J.run [32] 20 (fun K hK => hK _ ?_)
          refine pm_J.cI [3, 4, 5, 6, 7, 8, 9] (c_splitCount hs (nA (choF k (nu i) ch)) (nA (grR k (nu i) ch s od).1.1) (nA (grR k (nu i) ch s od).1.2.1) (nA (grR k (nu i) ch s od).1.2.2) se (nA (grR k (nu i) ch s od).2) (k - 2) (by omega)) gRX0_51 vX4_splitCount ?_
          refine pm_J.run [10] 20 (fun K hK => br_t (nI_le (by omega) (by omega)) (hK _ ?_))
          have := ih _ _ se _ (k - 2) hT2 (some (.int (nI (k - 3))))
          rw [← nI_add i 1] at this
          exact this
        · refine pm_J.run [32] 20 (fun K hK => hK _ ?_)
          refine pm_J.cI [3, 4, 5, 6, 7, 8, 9] (c_splitCount hs (nA (choF k (nu i) ch)) (nA (grR k (nu i) ch s od).1.1) (nA (grR k (nu i) ch s od).1.2.1) (nA (grR k (nu i) ch s od).1.2.2) se (nA (grR k (nu i) ch s od).2) (k - 2) (by omega)) gRX0_51 vX4_splitCount ?_
          refine pm_J.run [32] 20 (fun K hK => br_f (nI_ge (a := j) (b := k - 2 - 1) (by omega) (by omega)) (hK _ ?_))
          refine pm_J.cI [3, 4, 5, 6, 7, 8, 9] (c_splitAt hs (nA (choF k (nu i) ch)) (nA (grR k (nu i) ch s od).1.1) (nA (grR k (nu i) ch s od).1.2.1) (grR k (nu i) ch s od).1.2.2 se (grR k (nu i) ch s od).2 (nI (k - 2)) j (by omega) hT2.2.2.2.2.2) gRX0_54 vX4_splitAt ?_
          rw [grR_sp u2 hk (by omega)]
          have hsp := spz_lt (k := k) (x := nu i) (i := j) hk
          refine pm_J.run [32] 20 (fun K hK => And.intro (vp_in_nI hsp (by decide)) (And.intro (vp_in_nI hsp (by decide)) (hK _ ?_)))
          rw [nI_clamp (by omega)]
          have e : taI (spz k (nu i)) (taS k nu (fun j => if j < 128 then 0 else ta j) i) (j + 1) = upN (taI (spz k (nu i)) (taS k nu (fun j => if j < 128 then 0 else ta j) i) j) (spz k (nu i) j) (taI (spz k (nu i)) (taS k nu (fun j => if j < 128 then 0 else ta j) i) j (spz k (nu i) j) + 1) := rfl
          rw [e, ← nA_upd, ← nI_add j 1, ← nI_add (taI (spz k (nu i)) (taS k nu (fun j => if j < 128 then 0 else ta j) i) j (spz k (nu i) j)) 1] at ih2
          exact ih2
      exact inner
  exact key ch s se od inn hT none
end FND
end
section
section GAT
variable {l : Launch} {I : pm_I} {M : pm_M} {d mc ms n : Nat} {O : pm_O → List pm_E → Prop}
/-- a call whose end is told by a relation -/
theorem pm_J.cvR {pc ix ci k0 d' : Nat} {L : List (Option Value)} {st rest As : List Value} {w wc : List pm_E} {M' : pm_M} {fs : List Value} {qc : vw_C} {v : Option Value} {Rl : List pm_E → Prop} (q : List Nat)
    (hM : pm_Met l M' d' 0 0 (.ref k0 :: As) wc (fun o w' => o = .inl v ∧ Rl w'))
    (hw : ∀ x ∈ wsV M.2.2.2.2 ix qc.1 M'.1 [Cond.code M'.1 M'.2.1 M'.2.2.1 M'.2.2.2.1], x ∈ pm_tb)
    (hy : M'.1.cls = qc.1 ∧ M'.1.cls ≠ "java/lang/invoke/MethodHandle" ∧ M'.1.cls ≠ "java/lang/invoke/VarHandle" ∧ (parseMethodDescriptor M'.1.desc).map (fun d => d.parameters.length) = some As.length)
    (kr : ∀ w1, Rl w1 → pm_J l M I d mc ms n O 0 0 (pc + 3, L, (v.map (pm_v (pm_rn q))).toList ++ rest, pm_bk (pm_rn q) w q w1))
    (hd : pm_find I.1 pc = some (.invokevirtual ix, 3) := by rfl) (hst : st = ((Value.ref k0 :: As).map (pm_v (pm_rn q))).reverse ++ rest := by rfl) (hf1 : va_nd q = true := by rfl) (hf2 : q.map (fun h => pm_nth w h) = wc.map (fun c => some (pm_rc (pm_rn q) c)) := by rfl) (hn : w.length = n := by rfl) (hr : wc[k0]? = some (.inr (ci, fs)) := by rfl) (hqc : vwCl[ci]? = some qc := by rfl)
    (hrest : Nat.ble (rest.map Value.category).sum 8 = true := by rfl) (hdd : Nat.ble (d' + 1) d = true := by rfl) (hml : Nat.ble M'.2.2.1 81 = true := by rfl) : pm_J l M I d mc ms n O 0 0 (pc, L, st, w) :=
  pm_J.call q hM hd hw hy hst ⟨hf1, hf2⟩ hn hr hqc (Nat.le_of_ble_eq_true hrest) (Nat.le_of_ble_eq_true hdd) (Nat.le_of_ble_eq_true hml) (Nat.zero_le _) (Nat.zero_le _) (fun E w1 h _ => by cases h.1) (fun v' w1' h _ => by obtain ⟨h1, h2⟩ := h; cases h1; exact kr _ h2)
set_option maxHeartbeats 1000000 in
theorem c_gather (hs : l.stackTraces = false) (nu ta : Nat → Nat) (cnt : Int32) (r : Nat → Int64) (wt : Nat → Nat) (k c : Nat) (ch : Nat → Nat) (s : trS) (se : Nat → Int64) (od : Nat → Nat) (inn : Nat) (hT : TrI ch s od) (hk3 : 3 ≤ k) (hk : k ≤ 7) (hc : c ≤ 16) (hw : Bd wt) :
    pm_Met l mX0_gather 6 0 0 [.ref 0, .ref 3, .ref 6] (fnW (nA nu) (nA ta) cnt ++ (tbAt 3 r wt k c ++ trAt' 6 ch s se od inn))
      (fun o w' => o = .inl (some (.int (nI (gaS (lenT r wt k c) nu (tcount k)).1))) ∧ ∃ ch2 s2 se2 od2 inn2, TrI ch2 s2 od2 ∧ w' = fnW (nA (gaS (lenT r wt k c) nu (tcount k)).2.2) (nA (taS k (gaS (lenT r wt k c) nu (tcount k)).2.2 (fun j => if j < 128 then 0 else ta j) (gaS (lenT r wt k c) nu (tcount k)).2.1)) (nI (gaS (lenT r wt k c) nu (tcount k)).2.1) ++ (tbAt 3 r wt k c ++ trAt' 6 ch2 s2 se2 od2 inn2)) := by
  refine pm_Met.mk kX0_gather hs (pm_J.run [] 20 (fun K hK => hK _ ?_))
  have ht : tcount k ≤ 945 := by
    have hk' : k = 3 ∨ k = 4 ∨ k = 5 ∨ k = 6 ∨ k = 7 := by omega
    rcases hk' with rfl | rfl | rfl | rfl | rfl <;> decide
  refine pm_J.cI [3, 4, 5] (c_treeCount hs r wt k c hk) gRX0_22 vX2_treeCount ?_
  refine pm_J.run [16] 20 (fun K hK => hK _ ?_)
  generalize hO : (fun (o : pm_O) (w' : List pm_E) => o = .inl (some (.int (nI (gaS (lenT r wt k c) nu (tcount k)).1))) ∧ ∃ ch2 s2 se2 od2 inn2, TrI ch2 s2 od2 ∧ w' = fnW (nA (gaS (lenT r wt k c) nu (tcount k)).2.2) (nA (taS k (gaS (lenT r wt k c) nu (tcount k)).2.2 (fun j => if j < 128 then 0 else ta j) (gaS (lenT r wt k c) nu (tcount k)).2.1)) (nI (gaS (lenT r wt k c) nu (tcount k)).2.1) ++ (tbAt 3 r wt k c ++ trAt' 6 ch2 s2 se2 od2 inn2)) = O
  have key : ∀ ch s se od inn, TrI ch s od → ∀ x6, pm_J l mX0_gather iX0_gather 6 0 0 13 O 0 0 (16, [some (.ref 0), some (.ref 3), some (.ref 6), some (.int (nI (tcount k))), some (.int (nI (gaS (lenT r wt k c) nu 0).1)), some (.int (nI 0)), x6], [], fnW (nA (gaS (lenT r wt k c) nu 0).2.2) (nA ta) (nI (gaS (lenT r wt k c) nu 0).2.1) ++ (tbAt 3 r wt k c ++ trAt' 6 ch s se od inn)) := by
    refine pm_up (b := tcount k) (P := fun i => ∀ ch s se od inn, TrI ch s od → ∀ x6, pm_J l mX0_gather iX0_gather 6 0 0 13 O 0 0 (16, [some (.ref 0), some (.ref 3), some (.ref 6), some (.int (nI (tcount k))), some (.int (nI (gaS (lenT r wt k c) nu i).1)), some (.int (nI i)), x6], [], fnW (nA (gaS (lenT r wt k c) nu i).2.2) (nA ta) (nI (gaS (lenT r wt k c) nu i).2.1) ++ (tbAt 3 r wt k c ++ trAt' 6 ch s se od inn))) 0 (Nat.zero_le _) (fun ch s se od inn hT x6 => ?_) (fun i h1 h2 ih ch s se od inn hT x6 => ?_)
    · refine pm_J.run [16] 20 (fun K hK => br_t (nI_le (Nat.le_refl _) (by omega)) (hK _ ?_))
      have hle := gaS_le (lenT r wt k c) nu (tcount k)
      refine pm_J.cvR [0, 1, 2, 6, 7, 8, 9, 10, 11, 12] (c_tally hs (gaS (lenT r wt k c) nu (tcount k)).2.2 ta (gaS (lenT r wt k c) nu (tcount k)).2.1 k ch s se od inn hT hk3 hk (by omega) (fun j hj => by have := gaS_num (f := lenT r wt k c) (nu := nu) (tcount k) j hj; omega)) gRX0_37 vX0_tallySplits (fun w1 hw1 => ?_)
      obtain ⟨ch2, s2, se2, od2, inn2, hT2, rfl⟩ := hw1
      refine pm_J.run [] 20 (fun K hK => hK _ ?_)
      refine pm_J.ri ?_
      rw [← hO]
      exact ⟨rfl, ch2, s2, se2, od2, inn2, hT2, rfl⟩
    · have hT2 := grR_I (x := i) hk hT
      have hM := c_measure hs ch s se od inn i r wt k c hT (by omega) hk3 hk hc
      rw [pk_canon r se hT.2.1 hk3 hk h2] at hM
      refine pm_J.run [16] 20 (fun K hK => br_f (nI_ge h2 (by omega)) (hK _ ?_))
      refine pm_J.ciw [6, 7, 8, 9, 10, 11, 12, 3, 4, 5] (fnW (nA (gaS (lenT r wt k c) nu i).2.2) (nA ta) (nI (gaS (lenT r wt k c) nu i).2.1) ++ (tbAt 3 r wt k c ++ trAt' 6 (choF k i ch) (grR k i ch s od).1 (pkS (grR k i ch s od).1.1 (grR k i ch s od).1.2.1 (grR k i ch s od).2 (seF r se k) (k - 2)).2.2 (grR k i ch s od).2 (k - 2))) hM gRX0_28 vX4_growAndMeasure ?_
      generalize (pkS (grR k i ch s od).1.1 (grR k i ch s od).1.2.1 (grR k i ch s od).2 (seF r se k) (k - 2)).2.2 = se3 at *
      have hcl := gaS_le (lenT r wt k c) nu i
      have hml := gaS_min (f := lenT r wt k c) (nu := nu) (B := 2 ^ 30) (by decide) (fun j => lenT_lt hw hc) i
      have hfi : lenT r wt k c i < 2 ^ 30 := lenT_lt hw hc
      show pm_J l mX0_gather iX0_gather 6 0 0 13 O 0 0 (_, _, .int (nI (lenT r wt k c i)) :: _, _)
      have ih2 := ih _ _ se3 _ (k - 2) hT2 (some (.int (nI (lenT r wt k c i))))
      rw [gaS] at ih2
      generalize hg : gaS (lenT r wt k c) nu i = g at hcl hml ih2 ⊢
      obtain ⟨g1, g2, g3⟩ := g
      dsimp only at hcl hml ih2 ⊢
      generalize lenT r wt k c i = fi at hfi ih2 ⊢
      have later : ∀ a b, a < 2 ^ 30 → b ≤ i → (fi = a → pm_J l mX0_gather iX0_gather 6 0 0 13 O 0 0 (16, [some (.ref 0), some (.ref 3), some (.ref 6), some (.int (nI (tcount k))), some (.int (nI a)), some (.int (nI i + nI 1)), some (.int (nI fi))], [], fnW (upd (nA g3) b (nI i)) (nA ta) (nI b + nI 1) ++ (tbAt 3 r wt k c ++ trAt' 6 (choF k i ch) (grR k i ch s od).1 se3 (grR k i ch s od).2 (k - 2)))) → (¬ fi = a → pm_J l mX0_gather iX0_gather 6 0 0 13 O 0 0 (16, [some (.ref 0), some (.ref 3), some (.ref 6), some (.int (nI (tcount k))), some (.int (nI a)), some (.int (nI i + nI 1)), some (.int (nI fi))], [], fnW (nA g3) (nA ta) (nI b) ++ (tbAt 3 r wt k c ++ trAt' 6 (choF k i ch) (grR k i ch s od).1 se3 (grR k i ch s od).2 (k - 2)))) →
          pm_J l mX0_gather iX0_gather 6 0 0 13 O 0 0 (54, [some (.ref 0), some (.ref 3), some (.ref 6), some (.int (nI (tcount k))), some (.int (nI a)), some (.int (nI i)), some (.int (nI fi))], [], fnW (nA g3) (nA ta) (nI b) ++ (tbAt 3 r wt k c ++ trAt' 6 (choF k i ch) (grR k i ch s od).1 se3 (grR k i ch s od).2 (k - 2))) := by
        intro a b ha hb y1 y2
        refine pm_J.run [16] 20 (fun K hK => And.intro (fun q => hK _ ?_) (fun q => And.intro (vp_in_nI (by omega) (by decide)) (hK _ ?_)))
        · have q' : ¬ nI fi = nI a := q
          rw [nI_eq (by omega) (by omega)] at q'
          exact y2 q'
        · have q' : ¬ ¬ nI fi = nI a := q
          rw [nI_eq (by omega) (by omega)] at q'
          have := y1 (Classical.not_not.mp q')
          rw [nI_clamp (by omega)]
          exact this
      have fresh : (g2 = 0 ∨ fi < g1) → pm_J l mX0_gather iX0_gather 6 0 0 13 O 0 0 (45, [some (.ref 0), some (.ref 3), some (.ref 6), some (.int (nI (tcount k))), some (.int (nI g1)), some (.int (nI i)), some (.int (nI fi))], [], fnW (nA g3) (nA ta) (nI g2) ++ (tbAt 3 r wt k c ++ trAt' 6 (choF k i ch) (grR k i ch s od).1 se3 (grR k i ch s od).2 (k - 2))) := by
        intro hq
        rw [if_pos hq] at ih2
        dsimp only at ih2
        rw [← nA_upd, ← nI_add i 1] at ih2
        refine pm_J.run [54] 20 (fun K hK => hK _ ?_)
        refine later fi 0 hfi (Nat.zero_le _) (fun _ => ?_) (fun z => absurd rfl z)
        rw [nI_add 0 1]
        exact ih2
      refine pm_J.run [45, 54] 20 (fun K hK => And.intro (fun q => hK _ ?_) (fun q => And.intro (fun q2 => hK _ ?_) (fun q2 => hK _ ?_)))
      · have q' : nI g2 = 0 := q
        rw [nI_z (by omega)] at q'
        exact fresh (Or.inl q')
      · have q' : ¬ nI g2 = 0 := q
        have q2' : nI g1 ≤ nI fi := q2
        rw [nI_z (by omega)] at q'
        rw [nI_leI (by omega) (by omega)] at q2'
        have hq : ¬ (g2 = 0 ∨ fi < g1) := by omega
        rw [if_neg hq] at ih2
        refine later g1 g2 hml hcl (fun z => ?_) (fun z => ?_)
        · rw [if_pos z] at ih2
          dsimp only at ih2
          rw [← nA_upd, ← nI_add i 1, ← nI_add g2 1] at ih2
          exact ih2
        · rw [if_neg z] at ih2
          dsimp only at ih2
          rw [← nI_add i 1] at ih2
          exact ih2
      · have q2' : ¬ nI g1 ≤ nI fi := q2
        rw [nI_leI (by omega) (by omega)] at q2'
        exact fresh (Or.inr (by omega))
  exact key ch s se od inn hT none
end GAT
end
section
section PAG
variable {l : Launch}
/-! Finds.shareOf -/
def fdv (a b : Nat) : UInt32 := FP.fdiv (FP.i2f (nI a)) (FP.i2f (nI b))
def shF (ta : Nat → Nat) (cnt : Nat) (x : Int32) : UInt32 := if (0 ≤ x ∧ x < nI 128) ∧ cnt ≠ 0 then fdv (ta x.toNatClampNeg) cnt else FP.fconst0
theorem c_shareOf (hs : l.stackTraces = false) (nu : Nat → Int32) (ta : Nat → Nat) (cnt : Nat) (x : Int32) (hc : cnt < 2 ^ 31) (hn : ∀ j, j < 128 → cnt ≠ 0 → vf_n32 (fdv (ta j) cnt)) : pm_Met l mX0_shareOf 1 0 0 [.ref 0, .int x] (fnW nu (nA ta) (nI cnt)) (isO (some (.float (shF ta cnt x))) (fnW nu (nA ta) (nI cnt))) := by
  refine pm_Met.mk kX0_shareOf hs (pm_J.run [] 20 (fun K hK => And.intro (fun h => hK _ ?_) (fun h => And.intro (fun h2 => hK _ ?_) (fun h2 => And.intro (fun h3 => ?_) (fun h3 => hK _ ?_)))))
  · exact pm_J.rf ⟨by rw [shF, if_neg (fun z => absurd h (Int32.not_lt.mpr z.1.1))], rfl⟩
  · exact pm_J.rf ⟨by rw [shF, if_neg (fun z => absurd z.1.2 (Int32.not_lt.mpr h2))], rfl⟩
  · have h3' : ¬ nI cnt = 0 := h3
    rw [nI_z hc] at h3'
    have a1 := Int32.not_lt.mp h
    have a2 : x < nI 128 := Int32.not_le.mp h2
    obtain ⟨j, hj, rfl⟩ : ∃ j : Nat, j < 128 ∧ x = nI j := by
      obtain ⟨j, hj, rfl⟩ := nI_of h
      exact ⟨j, (nI_ltI (by omega) (by decide)).mp a2, rfl⟩
    have ej : (nI j).toNatClampNeg = j := nI_clamp (by omega)
    refine And.intro (vp_in_nI hj (by decide)) (And.intro ?_ (hK _ ?_))
    · have := hn j hj h3'
      unfold fdv at this
      rw [ej]
      exact this
    · exact pm_J.rf ⟨by rw [shF, if_pos ⟨⟨a1, a2⟩, h3'⟩]; rfl, rfl⟩
  · have h3' : ¬ ¬ nI cnt = 0 := h3
    rw [nI_z hc] at h3'
    exact pm_J.rf ⟨by rw [shF, if_neg (fun z => h3' z.2)], rfl⟩
/-! Page -/
abbrev pgW (si gr : Nat → Int32) (sz gc : Int32) : List pm_E := [.inr (1, [.ref 1, .ref 2, .int sz, .int gc]), .inl (.char, 24, .inl si), .inl (.int, 7, .inl gr)]
theorem c_forgetGroups (hs : l.stackTraces = false) (si gr : Nat → Int32) (sz gc : Int32) : pm_Met l mX1_forgetGroups 1 0 0 [.ref 0] (pgW si gr sz gc) (isO none (pgW si gr sz (nI 0))) := by
  refine pm_Met.mk kX1_forgetGroups hs (pm_J.run [] 20 (fun K hK => hK _ ?_))
  exact pm_J.rv ⟨rfl, rfl⟩
theorem c_addGroup (hs : l.stackTraces = false) (si : Nat → Int32) (gr : Nat → Nat) (sz : Int32) (gc v : Nat) (hg : gc ≤ 7) : pm_Met l mX1_addGroup 1 0 0 [.ref 0, .int (nI v)] (pgW si (nA gr) sz (nI gc)) (isO none (if gc < 7 then pgW si (nA (upN gr gc v)) sz (nI (gc + 1)) else pgW si (nA gr) sz (nI gc))) := by
  refine pm_Met.mk kX1_addGroup hs (pm_J.run [] 20 (fun K hK => And.intro (fun h => hK _ ?_) (fun h => ?_)))
  · have h' : nI 7 ≤ nI gc := h
    rw [nI_leI (by decide) (by omega)] at h'
    exact pm_J.rv ⟨rfl, by rw [if_neg (by omega)]⟩
  · have h' : ¬ nI 7 ≤ nI gc := h
    rw [nI_leI (by decide) (by omega)] at h'
    refine And.intro (vp_in_nI (by omega) (by decide)) (hK _ ?_)
    refine pm_J.rv ⟨rfl, ?_⟩
    rw [if_pos (by omega), ← nA_upd, ← nI_add gc 1, nI_clamp (by omega)]
    rfl
theorem nar_char {v : Nat} (h : v < 65536) : vp_nar .char (nI v) = nI v := by
  unfold vp_nar
  rw [(pk_charN h).1]
abbrev pgS : Type := (Nat → Nat) × Nat
def putF (s : pgS) (v : Nat) : pgS := if s.2 < 24 then (upN s.1 s.2 v, s.2 + 1) else s
theorem putF_le {s : pgS} {v : Nat} (h : s.2 ≤ 24) : (putF s v).2 ≤ 24 := by
  unfold putF
  split
  · show s.2 + 1 ≤ 24; omega
  · exact h
abbrev pgW' (s : pgS) (gr : Nat → Int32) (gc : Int32) : List pm_E := pgW (nA s.1) gr (nI s.2) gc
theorem c_pput (hs : l.stackTraces = false) (s : pgS) (gr : Nat → Int32) (gc : Int32) (v : Nat) (h : s.2 ≤ 24) (hv : v < 65536) : pm_Met l mX1_put 1 0 0 [.ref 0, .int (nI v)] (pgW' s gr gc) (isO none (pgW' (putF s v) gr gc)) := by
  refine pm_Met.mk kX1_put hs (pm_J.run [] 20 (fun K hK => And.intro (fun q => hK _ ?_) (fun q => ?_)))
  · have q' : nI 24 ≤ nI s.2 := q
    rw [nI_leI (by decide) (by omega)] at q'
    exact pm_J.rv ⟨rfl, by rw [putF, if_neg (by omega)]⟩
  · have q' : ¬ nI 24 ≤ nI s.2 := q
    rw [nI_leI (by decide) (by omega)] at q'
    refine And.intro (vp_in_nI (by omega) (by decide)) (hK _ ?_)
    refine pm_J.rv ⟨rfl, ?_⟩
    rw [putF, if_pos (by omega)]
    show _ = pgW (nA (upN s.1 s.2 v)) gr (nI (s.2 + 1)) gc
    rw [← nA_upd, ← nI_add s.2 1, nar_char hv, nI_clamp (by omega)]
    rfl
def wgF (gr : Nat → Nat) (S kd : Nat) : Nat → Nat
  | 0 => 0
  | i + 1 => if ((gr i &&& S) = gr i ∧ ¬ gr i = S) ∧ ¬ gr i / 2 ^ kd % 2 = 0 then max (wgF gr S kd i) (gr i) else wgF gr S kd i
theorem wgF_lt {gr : Nat → Nat} {S kd : Nat} (h : Bd gr) : ∀ i, wgF gr S kd i < 128
  | 0 => (by decide : 0 < 128)
  | i + 1 => by
    have := wgF_lt (S := S) (kd := kd) h i
    have := h i
    unfold wgF
    split <;> omega
theorem gmax_RX1_38 : ∀ z ∈ [Cond.methodLink RX1 38 Lib.Math.max.name, Cond.static Lib.Math.max.name, Cond.initialized "java/lang/Math", Cond.code Lib.Math.max.name Lib.Math.max.code 2 (some .int)], z ∈ pm_tb := by decide +kernel
theorem bit_at2 {x st : Nat} (hx : x < 128) (hst : st < 7) : (nI x >>> (nI st &&& 31)) &&& nI 1 = nI (x / 2 ^ st % 2) := by
  rw [pk_shrN (by omega) _ st (s_l st (by omega)), pk_andN (Nat.lt_of_le_of_lt (Nat.div_le_self _ _) (by omega)) 1 (by decide +kernel)]
set_option maxHeartbeats 1000000 in
theorem c_widest (hs : l.stackTraces = false) (si : Nat → Int32) (gr : Nat → Nat) (sz : Int32) (gc S kd : Nat) (hg : Bd gr) (hc : gc ≤ 7) (hS : S < 128) (hkd : kd < 7) : pm_Met l mX1_widestGroup 1 0 0 [.ref 0, .int (nI kd), .int (nI S)] (pgW si (nA gr) sz (nI gc)) (isI (nI (wgF gr S kd gc)) (pgW si (nA gr) sz (nI gc))) := by
  refine pm_Met.mk kX1_widestGroup hs (pm_J.run [5] 20 (fun K hK => hK _ ?_))
  have key : ∀ x5 x6, pm_J l mX1_widestGroup iX1_widestGroup 1 0 0 3 (isI (nI (wgF gr S kd gc)) (pgW si (nA gr) sz (nI gc))) 0 0 (5, [some (.ref 0), some (.int (nI kd)), some (.int (nI S)), some (.int (nI (wgF gr S kd 0))), some (.int (nI 0)), x5, x6], [], pgW si (nA gr) sz (nI gc)) := by
    refine pm_up (b := gc) (P := fun i => ∀ x5 x6, pm_J l mX1_widestGroup iX1_widestGroup 1 0 0 3 (isI (nI (wgF gr S kd gc)) (pgW si (nA gr) sz (nI gc))) 0 0 (5, [some (.ref 0), some (.int (nI kd)), some (.int (nI S)), some (.int (nI (wgF gr S kd i))), some (.int (nI i)), x5, x6], [], pgW si (nA gr) sz (nI gc))) 0 (Nat.zero_le _) (fun x5 x6 => ?_) (fun i h1 h2 ih x5 x6 => ?_)
    · refine pm_J.run [5] 20 (fun K hK => br_t (nI_le (Nat.le_refl _) (by omega)) (hK _ ?_))
      exact pm_J.ri ⟨rfl, rfl⟩
    · have ei : (nI i).toNatClampNeg = i := nI_clamp (by omega)
      have hgi := hg i
      have hwl := wgF_lt (S := S) (kd := kd) hg i
      have hand : gr i &&& S < 128 := Nat.lt_of_le_of_lt Nat.and_le_left hgi
      have hbit : gr i / 2 ^ kd % 2 < 2 := Nat.mod_lt _ (by decide)
      have ef : wgF gr S kd (i + 1) = if ((gr i &&& S) = gr i ∧ ¬ gr i = S) ∧ ¬ gr i / 2 ^ kd % 2 = 0 then max (wgF gr S kd i) (gr i) else wgF gr S kd i := rfl
      rw [ef, ← nI_add i 1] at ih
      have skip : ∀ x6, ¬ (((gr i &&& S) = gr i ∧ ¬ gr i = S) ∧ ¬ gr i / 2 ^ kd % 2 = 0) → pm_J l mX1_widestGroup iX1_widestGroup 1 0 0 3 (isI (nI (wgF gr S kd gc)) (pgW si (nA gr) sz (nI gc))) 0 0 (66, [some (.ref 0), some (.int (nI kd)), some (.int (nI S)), some (.int (nI (wgF gr S kd i))), some (.int (nI i)), some (.int (nI (gr i))), x6], [], pgW si (nA gr) sz (nI gc)) := by
        intro x6 hq
        refine pm_J.run [5] 20 (fun K hK => hK _ ?_)
        have := ih (some (.int (nI (gr i)))) x6
        rw [if_neg hq] at this
        exact this
      have take : ((gr i &&& S) = gr i ∧ ¬ gr i = S) → pm_J l mX1_widestGroup iX1_widestGroup 1 0 0 3 (isI (nI (wgF gr S kd gc)) (pgW si (nA gr) sz (nI gc))) 0 0 (43, [some (.ref 0), some (.int (nI kd)), some (.int (nI S)), some (.int (nI (wgF gr S kd i))), some (.int (nI i)), some (.int (nI (gr i))), x6], [.int (nI 1)], pgW si (nA gr) sz (nI gc)) := by
        intro hq
        refine pm_J.run [66] 20 (fun K hK => br_f (by decide) (And.intro (fun q => hK _ ?_) (fun q => hK _ ?_)))
        · have q' : (nI (gr i) >>> (nI kd &&& 31)) &&& nI 1 = 0 := q
          rw [bit_at2 hgi hkd, nI_z (by omega)] at q'
          exact skip _ (fun z => z.2 q')
        · have q' : ¬ (nI (gr i) >>> (nI kd &&& 31)) &&& nI 1 = 0 := q
          rw [bit_at2 hgi hkd, nI_z (by omega)] at q'
          refine pm_J.mmax rfl gmax_RX1_38 (Nat.le_of_ble_eq_true rfl) (by decide) (by decide) (by decide) ?_
          rw [nI_max (by omega) (by omega)]
          refine pm_J.run [5] 20 (fun K hK => hK _ ?_)
          have := ih (some (.int (nI (gr i)))) (some (.int (nI 1)))
          rw [if_pos ⟨hq, q'⟩] at this
          exact this
      have none' : ¬ ((gr i &&& S) = gr i ∧ ¬ gr i = S) → pm_J l mX1_widestGroup iX1_widestGroup 1 0 0 3 (isI (nI (wgF gr S kd gc)) (pgW si (nA gr) sz (nI gc))) 0 0 (43, [some (.ref 0), some (.int (nI kd)), some (.int (nI S)), some (.int (nI (wgF gr S kd i))), some (.int (nI i)), some (.int (nI (gr i))), x6], [.int (nI 0)], pgW si (nA gr) sz (nI gc)) := by
        intro hq
        refine pm_J.run [66] 20 (fun K hK => br_t (by decide) (hK _ ?_))
        exact skip _ (fun z => hq z.1)
      refine pm_J.run [43] 40 (fun K hK => br_f (nI_ge h2 (by omega)) (And.intro (vp_in_nI (by omega) (by decide)) (And.intro (fun q => hK _ ?_) (fun q => And.intro (fun q2 => hK _ ?_) (fun q2 => hK _ ?_)))))
      · have q' : ¬ (nI (gr (nI i).toNatClampNeg) &&& nI S) = nI (gr (nI i).toNatClampNeg) := q
        rw [ei, nx_and, nI_e128 hand hgi] at q'
        rw [ei]
        exact none' (fun z => q' z.1)
      · have q2' : nI (gr (nI i).toNatClampNeg) = nI S := q2
        rw [ei, nI_e128 hgi hS] at q2'
        rw [ei]
        exact none' (fun z => z.2 q2')
      · have q' : ¬ ¬ (nI (gr (nI i).toNatClampNeg) &&& nI S) = nI (gr (nI i).toNatClampNeg) := q
        have q2' : ¬ nI (gr (nI i).toNatClampNeg) = nI S := q2
        rw [ei, nx_and, nI_e128 hand hgi] at q'
        rw [ei, nI_e128 hgi hS] at q2'
        rw [ei]
        exact take ⟨Classical.not_not.mp q', q2'⟩
  exact key none none
end PAG
end
section
section PG2
variable {l : Launch}
theorem andn_at : ∀ a, a < 128 → ∀ b, b < 128 → nI a &&& (nI b ^^^ pm_k (-1)) = nI (a &&& (127 ^^^ b)) := by decide +kernel
theorem and_lt {a b : Nat} (h : a < 128) : a &&& b < 128 := Nat.lt_of_le_of_lt Nat.and_le_left h
/-- one kind's turn: what is left, what is written -/
def sbT (rec : Nat → pgS → pgS) (gr : Nat → Nat) (gc S : Nat) (z : Nat × pgS) (kd : Nat) : Nat × pgS :=
  if z.1 / 2 ^ kd % 2 = 0 then z else
    (z.1 &&& (127 ^^^ (wgF gr S kd gc ||| 2 ^ kd)),
      if wgF gr S kd gc = 0 then putF (if z.1 = S then z.2 else putF z.2 44) (97 + kd) else putF (rec (wgF gr S kd gc) (putF (if z.1 = S then z.2 else putF z.2 44) 40)) 41)
def sbL (rec : Nat → pgS → pgS) (gr : Nat → Nat) (gc S : Nat) (st : pgS) : Nat → Nat × pgS
  | 0 => (S, st)
  | kd + 1 => sbT rec gr gc S (sbL rec gr gc S st kd) kd
def sbF (gr : Nat → Nat) (gc : Nat) : Nat → Nat → pgS → pgS
  | 0, _, st => st
  | f + 1, S, st => (sbL (sbF gr gc f) gr gc S st 7).2
theorem sbT_ok {rec : Nat → pgS → pgS} {gr : Nat → Nat} {gc S kd : Nat} {z : Nat × pgS} (hr : ∀ g st, st.2 ≤ 24 → (rec g st).2 ≤ 24) (h : z.1 < 128 ∧ z.2.2 ≤ 24) : (sbT rec gr gc S z kd).1 < 128 ∧ (sbT rec gr gc S z kd).2.2 ≤ 24 := by
  unfold sbT
  split
  · exact h
  · refine ⟨and_lt h.1, ?_⟩
    have h1 : (if z.1 = S then z.2 else putF z.2 44).2 ≤ 24 := by
      split
      · exact h.2
      · exact putF_le h.2
    dsimp only
    split
    · exact putF_le h1
    · exact putF_le (hr _ _ (putF_le h1))
theorem sbL_ok {rec : Nat → pgS → pgS} {gr : Nat → Nat} {gc S : Nat} {st : pgS} (hr : ∀ g st, st.2 ≤ 24 → (rec g st).2 ≤ 24) (hS : S < 128) (h : st.2 ≤ 24) : ∀ kd, (sbL rec gr gc S st kd).1 < 128 ∧ (sbL rec gr gc S st kd).2.2 ≤ 24
  | 0 => ⟨hS, h⟩
  | kd + 1 => sbT_ok hr (sbL_ok hr hS h kd)
theorem sbF_ok (gr : Nat → Nat) (gc : Nat) : ∀ f S st, S < 128 → st.2 ≤ 24 → (sbF gr gc f S st).2 ≤ 24
  | 0, _, st, _, h => h
  | f + 1, S, st, hS, h => by
    -- the sets that recur are groups: below 128 or not, what is written stays within the page
    have hr : ∀ g st, st.2 ≤ 24 → (sbF gr gc f g st).2 ≤ 24 := by
      clear h hS
      induction f with
      | zero => intro g st h; exact h
      | succ f ih =>
        intro g st h
        have : ∀ kd, (sbL (sbF gr gc f) gr gc g st kd).2.2 ≤ 24 := by
          intro kd
          induction kd with
          | zero => exact h
          | succ kd ih2 =>
            unfold sbL sbT
            split
            · exact ih2
            · have h1 : (if (sbL (sbF gr gc f) gr gc g st kd).1 = g then (sbL (sbF gr gc f) gr gc g st kd).2 else putF (sbL (sbF gr gc f) gr gc g st kd).2 44).2 ≤ 24 := by
                split
                · exact ih2
                · exact putF_le ih2
              dsimp only
              split
              · exact putF_le h1
              · exact putF_le (ih _ _ (putF_le h1))
        exact this 7
    exact (sbL_ok hr hS h 7).2
theorem i2c_at {v : Nat} (h : v < 65536) : ((nI v).toUInt32 % 65536).toInt32 = nI v := by
  rw [pk_char, pk_tn (by omega), Nat.mod_eq_of_lt h]
set_option maxHeartbeats 2000000 in
theorem c_side (hs : l.stackTraces = false) (gr : Nat → Nat) (gc : Nat) (hg : Bd gr) (hc : gc ≤ 7) : ∀ (f dp S : Nat) (st : pgS), dp + f = 7 → S < 128 → st.2 ≤ 24 → pm_Met l mX1_putSideBySide (f + 3) 0 0 [.ref 0, .int (nI S), .int (nI dp)] (pgW' st (nA gr) (nI gc)) (isO none (pgW' (sbF gr gc f S st) (nA gr) (nI gc))) := by
  intro f
  induction f with
  | zero =>
    intro dp S st hdp hS hst
    refine pm_Met.mk kX1_putSideBySide hs (pm_J.run [] 20 (fun K hK => br_f (nI_nlt (a := dp) (b := 7) (by omega) (by omega)) (hK _ ?_)))
    exact pm_J.rv ⟨rfl, rfl⟩
  | succ f ihf =>
    intro dp S st hdp hS hst
    have hr : ∀ g st, st.2 ≤ 24 → (sbF gr gc f g st).2 ≤ 24 := by
      intro g st h
      by_cases hgl : g < 128
      · exact sbF_ok gr gc f g st hgl h
      · -- a set beyond the kinds does not come up; the bound holds all the same
        have := sbF_ok gr gc (f + 1) 0 st (by decide) h
        clear this
        have gen : ∀ f g (st : pgS), st.2 ≤ 24 → (sbF gr gc f g st).2 ≤ 24 := by
          intro f
          induction f with
          | zero => intro g st h; exact h
          | succ f ih =>
            intro g st h
            have : ∀ kd, (sbL (sbF gr gc f) gr gc g st kd).2.2 ≤ 24 := by
              intro kd
              induction kd with
              | zero => exact h
              | succ kd ih2 =>
                unfold sbL sbT
                split
                · exact ih2
                · have h1 : (if (sbL (sbF gr gc f) gr gc g st kd).1 = g then (sbL (sbF gr gc f) gr gc g st kd).2 else putF (sbL (sbF gr gc f) gr gc g st kd).2 44).2 ≤ 24 := by
                    split
                    · exact ih2
                    · exact putF_le ih2
                  dsimp only
                  split
                  · exact putF_le h1
                  · exact putF_le (ih _ _ (putF_le h1))
            exact this 7
        exact gen f g st h
    refine pm_Met.mk kX1_putSideBySide hs (pm_J.run [12] 20 (fun K hK => br_t (nI_lt (a := dp) (b := 7) (by omega) (by decide)) (hK _ ?_)))
    have key : ∀ x5, pm_J l mX1_putSideBySide iX1_putSideBySide (f + 1 + 3) 0 0 3 (isO none (pgW' (sbF gr gc (f + 1) S st) (nA gr) (nI gc))) 0 0 (12, [some (.ref 0), some (.int (nI S)), some (.int (nI dp)), some (.int (nI (sbL (sbF gr gc f) gr gc S st 0).1)), some (.int (nI 0)), x5], [], pgW' (sbL (sbF gr gc f) gr gc S st 0).2 (nA gr) (nI gc)) := by
      refine pm_up (b := 7) (P := fun kd => ∀ x5, pm_J l mX1_putSideBySide iX1_putSideBySide (f + 1 + 3) 0 0 3 (isO none (pgW' (sbF gr gc (f + 1) S st) (nA gr) (nI gc))) 0 0 (12, [some (.ref 0), some (.int (nI S)), some (.int (nI dp)), some (.int (nI (sbL (sbF gr gc f) gr gc S st kd).1)), some (.int (nI kd)), x5], [], pgW' (sbL (sbF gr gc f) gr gc S st kd).2 (nA gr) (nI gc))) 0 (by decide) (fun x5 => ?_) (fun kd h1 h2 ih x5 => ?_)
      · refine pm_J.run [12] 20 (fun K hK => br_t (nI_le (a := 7) (b := 7) (by decide) (by decide)) (hK _ ?_))
        exact pm_J.rv ⟨rfl, rfl⟩
      · obtain ⟨z1, z2⟩ := sbL_ok (gr := gr) (gc := gc) (S := S) (st := st) hr hS hst kd
        have hwg := wgF_lt (S := S) (kd := kd) hg gc
        have ef : sbL (sbF gr gc f) gr gc S st (kd + 1) = sbT (sbF gr gc f) gr gc S (sbL (sbF gr gc f) gr gc S st kd) kd := rfl
        rw [ef, ← nI_add kd 1] at ih
        generalize sbL (sbF gr gc f) gr gc S st kd = z at z1 z2 ih ⊢
        obtain ⟨lf, s0⟩ := z
        dsimp only at z1 z2 ⊢
        have hbit : lf / 2 ^ kd % 2 < 2 := Nat.mod_lt _ (by decide)
        have hpw : 2 ^ kd < 128 := Nat.pow_lt_pow_right (a := 2) (by decide) (show kd < 7 from h2)
        refine pm_J.run [31, 12] 20 (fun K hK => br_f (nI_ge (a := kd) (b := 7) h2 (by decide)) (And.intro (fun q => hK _ ?_) (fun q => hK _ ?_)))
        · have q' : ¬ (nI lf >>> (nI kd &&& 31)) &&& nI 1 = 0 := q
          rw [bit_at2 z1 h2, nI_z (by omega)] at q'
          unfold sbT at ih
          rw [if_neg q'] at ih
          dsimp only at ih
          -- behind the comma
          have rest : ∀ s1 : pgS, (if lf = S then s0 else putF s0 44) = s1 → pm_J l mX1_putSideBySide iX1_putSideBySide (f + 1 + 3) 0 0 3 (isO none (pgW' (sbF gr gc (f + 1) S st) (nA gr) (nI gc))) 0 0 (42, [some (.ref 0), some (.int (nI S)), some (.int (nI dp)), some (.int (nI lf)), some (.int (nI kd)), x5], [], pgW' s1 (nA gr) (nI gc)) := by
            intro s1 e1
            have hs1 : s1.2 ≤ 24 := by
              rw [← e1]; split
              · exact z2
              · exact putF_le z2
            rw [e1] at ih
            refine pm_J.run [] 20 (fun K hK => hK _ ?_)
            refine pm_J.cI [0, 1, 2] (c_widest hs (nA s1.1) gr (nI s1.2) gc S kd hg hc hS h2) gRX1_34 vX1_widestGroup ?_ (hdd := Nat.ble_eq.mpr (by omega))
            have last : ∀ s2 : pgS, (if wgF gr S kd gc = 0 then putF s1 (97 + kd) else putF (sbF gr gc f (wgF gr S kd gc) (putF s1 40)) 41) = s2 → pm_J l mX1_putSideBySide iX1_putSideBySide (f + 1 + 3) 0 0 3 (isO none (pgW' (sbF gr gc (f + 1) S st) (nA gr) (nI gc))) 0 0 (90, [some (.ref 0), some (.int (nI S)), some (.int (nI dp)), some (.int (nI lf)), some (.int (nI kd)), some (.int (nI (wgF gr S kd gc)))], [], pgW' s2 (nA gr) (nI gc)) := by
              intro s2 e2
              refine pm_J.run [12] 20 (fun K hK => hK _ ?_)
              have := ih (some (.int (nI (wgF gr S kd gc))))
              rw [e2, ← andn_at lf z1 (wgF gr S kd gc ||| 2 ^ kd) (or128 hwg hpw), ← nx_or, ← nI_shl1 (by omega)] at this
              exact this
            refine pm_J.run [] 20 (fun K hK => And.intro (fun g => hK _ ?_) (fun g => hK _ ?_))
            · have g' : ¬ nI (wgF gr S kd gc) = 0 := g
              rw [nI_z (by omega)] at g'
              rw [if_neg g'] at last
              refine pm_J.cv [0, 1, 2] (pgW' (putF s1 40) (nA gr) (nI gc)) (c_pput hs s1 (nA gr) (nI gc) 40 hs1 (by decide)) gRX1_26 vX1_put ?_ (hdd := Nat.ble_eq.mpr (by omega))
              refine pm_J.run [] 20 (fun K hK => hK _ ?_)
              have hM := ihf (dp + 1) (wgF gr S kd gc) (putF s1 40) (by omega) hwg (putF_le hs1)
              rw [← nI_add dp 1] at hM
              refine pm_J.cv [0, 1, 2] (pgW' (sbF gr gc f (wgF gr S kd gc) (putF s1 40)) (nA gr) (nI gc)) hM gRX1_30 vX1_putSideBySide ?_ (hdd := Nat.ble_eq.mpr (by omega))
              refine pm_J.run [] 20 (fun K hK => hK _ ?_)
              refine pm_J.cv [0, 1, 2] (pgW' (putF (sbF gr gc f (wgF gr S kd gc) (putF s1 40)) 41) (nA gr) (nI gc)) (c_pput hs (sbF gr gc f (wgF gr S kd gc) (putF s1 40)) (nA gr) (nI gc) 41 (hr _ _ (putF_le hs1)) (by decide)) gRX1_26 vX1_put ?_ (hdd := Nat.ble_eq.mpr (by omega))
              exact last _ rfl
            · have g' : ¬ ¬ nI (wgF gr S kd gc) = 0 := g
              rw [nI_z (by omega)] at g'
              rw [if_pos (Classical.not_not.mp g')] at last
              have ei : ((nI 97 + nI kd).toUInt32 % 65536).toInt32 = nI (97 + kd) := by rw [nI_add]; exact i2c_at (by omega)
              have ei2 : ((pm_k 97 + nI kd).toUInt32 % 65536).toInt32 = nI (97 + kd) := ei
              rw [ei2]
              refine pm_J.cv [0, 1, 2] (pgW' (putF s1 (97 + kd)) (nA gr) (nI gc)) (c_pput hs s1 (nA gr) (nI gc) (97 + kd) hs1 (by omega)) gRX1_26 vX1_put ?_ (hdd := Nat.ble_eq.mpr (by omega))
              refine pm_J.run [90] 20 (fun K hK => hK _ ?_)
              exact last _ rfl
          refine pm_J.run [42] 20 (fun K hK => And.intro (fun g => hK _ ?_) (fun g => hK _ ?_))
          · have g' : nI lf = nI S := g
            rw [nI_e128 z1 hS] at g'
            exact rest s0 (if_pos g')
          · have g' : ¬ nI lf = nI S := g
            rw [nI_e128 z1 hS] at g'
            refine pm_J.cv [0, 1, 2] (pgW' (putF s0 44) (nA gr) (nI gc)) (c_pput hs s0 (nA gr) (nI gc) 44 z2 (by decide)) gRX1_26 vX1_put ?_ (hdd := Nat.ble_eq.mpr (by omega))
            exact rest (putF s0 44) (if_neg g')
        · have q' : ¬ ¬ (nI lf >>> (nI kd &&& 31)) &&& nI 1 = 0 := q
          rw [bit_at2 z1 h2, nI_z (by omega)] at q'
          unfold sbT at ih
          rw [if_pos (Classical.not_not.mp q')] at ih
          have := ih x5
          exact this
    exact key none
end PG2
end
section
section PG3
variable {l : Launch}
def flF (gr : Nat → Nat) (gc k : Nat) (sg : Nat → Nat) : pgS := putF (putF (sbF gr gc 7 (2 ^ k - 2) (putF (putF (putF (sg, 0) 40) 97) 44)) 41) 59
theorem c_fill (hs : l.stackTraces = false) (gr : Nat → Nat) (gc k : Nat) (sg : Nat → Nat) (sz : Int32) (hg : Bd gr) (hc : gc ≤ 7) (hk3 : 3 ≤ k) (hk : k ≤ 7) : pm_Met l mX1_fill 11 0 0 [.ref 0, .int (nI k)] (pgW (nA sg) (nA gr) sz (nI gc)) (isI (nI (flF gr gc k sg).2) (pgW' (flF gr gc k sg) (nA gr) (nI gc))) := by
  have h0 : (putF (putF (putF (sg, 0) 40) 97) 44).2 ≤ 24 := putF_le (putF_le (putF_le (Nat.zero_le _)))
  have hp : 2 ^ k ≤ 2 ^ 7 := Nat.pow_le_pow_right (by decide) hk
  have hp2 : 2 ^ 3 ≤ 2 ^ k := Nat.pow_le_pow_right (by decide) hk3
  have hS : 2 ^ k - 2 < 128 := by omega
  have hsb := sbF_ok gr gc 7 (2 ^ k - 2) _ hS h0
  refine pm_Met.mk kX1_fill hs (pm_J.run [] 20 (fun K hK => hK _ ?_))
  refine pm_J.cv [0, 1, 2] (pgW' (putF (sg, 0) 40) (nA gr) (nI gc)) (c_pput hs (sg, 0) (nA gr) (nI gc) 40 (Nat.zero_le _) (by decide)) gRX1_26 vX1_put ?_
  refine pm_J.run [] 20 (fun K hK => hK _ ?_)
  refine pm_J.cv [0, 1, 2] (pgW' (putF (putF (sg, 0) 40) 97) (nA gr) (nI gc)) (c_pput hs (putF (sg, 0) 40) (nA gr) (nI gc) 97 (putF_le (Nat.zero_le _)) (by decide)) gRX1_26 vX1_put ?_
  refine pm_J.run [] 20 (fun K hK => hK _ ?_)
  refine pm_J.cv [0, 1, 2] (pgW' (putF (putF (putF (sg, 0) 40) 97) 44) (nA gr) (nI gc)) (c_pput hs (putF (putF (sg, 0) 40) 97) (nA gr) (nI gc) 44 (putF_le (putF_le (Nat.zero_le _))) (by decide)) gRX1_26 vX1_put ?_
  refine pm_J.run [] 20 (fun K hK => hK _ ?_)
  have e : nI 1 <<< (nI k &&& 31) - nI 2 = nI (2 ^ k - 2) := by rw [nI_shl1 (by omega), pk_sub (by omega)]
  have e' : pm_k 1 <<< (nI k &&& 31) - pm_k 2 = nI (2 ^ k - 2) := e
  rw [e']
  refine pm_J.cv [0, 1, 2] (pgW' (sbF gr gc 7 (2 ^ k - 2) (putF (putF (putF (sg, 0) 40) 97) 44)) (nA gr) (nI gc)) (c_side hs gr gc hg hc 7 0 (2 ^ k - 2) _ rfl hS h0) gRX1_30 vX1_putSideBySide ?_
  refine pm_J.run [] 20 (fun K hK => hK _ ?_)
  refine pm_J.cv [0, 1, 2] (pgW' (putF (sbF gr gc 7 (2 ^ k - 2) (putF (putF (putF (sg, 0) 40) 97) 44)) 41) (nA gr) (nI gc)) (c_pput hs _ (nA gr) (nI gc) 41 hsb (by decide)) gRX1_26 vX1_put ?_
  refine pm_J.run [] 20 (fun K hK => hK _ ?_)
  refine pm_J.cv [0, 1, 2] (pgW' (flF gr gc k sg) (nA gr) (nI gc)) (c_pput hs _ (nA gr) (nI gc) 59 (putF_le hsb) (by decide)) gRX1_26 vX1_put ?_
  refine pm_J.run [] 20 (fun K hK => hK _ ?_)
  exact pm_J.ri ⟨rfl, rfl⟩
def sgF (s : pgS) (x : Int32) : Nat := if 0 ≤ x ∧ x < nI s.2 then s.1 x.toNatClampNeg else 0
theorem c_signAt (hs : l.stackTraces = false) (s : pgS) (gr : Nat → Int32) (gc : Int32) (x : Int32) (h : s.2 ≤ 24) (hb : ∀ j, s.1 j < 65536) : pm_Met l mX1_signAt 1 0 0 [.ref 0, .int x] (pgW' s gr gc) (isI (nI (sgF s x)) (pgW' s gr gc)) := by
  refine pm_Met.mk kX1_signAt hs (pm_J.run [] 20 (fun K hK => And.intro (fun q => hK _ ?_) (fun q => And.intro (fun q2 => hK _ ?_) (fun q2 => ?_))))
  · exact pm_J.ri ⟨by rw [sgF, if_neg (fun z => absurd q (Int32.not_lt.mpr z.1))]; rfl, rfl⟩ (hn := rfl)
  · exact pm_J.ri ⟨by rw [sgF, if_neg (fun z => absurd z.2 (Int32.not_lt.mpr q2))]; rfl, rfl⟩ (hn := rfl)
  · have a1 := Int32.not_lt.mp q
    have a2 : x < nI s.2 := Int32.not_le.mp q2
    obtain ⟨j, hj, rfl⟩ : ∃ j : Nat, j < s.2 ∧ x = nI j := by
      obtain ⟨j, hj, rfl⟩ := nI_of q
      exact ⟨j, (nI_ltI (by omega) (by omega)).mp a2, rfl⟩
    refine And.intro (vp_in_nI (by omega) (by decide)) (hK _ ?_)
    rw [sgF, if_pos ⟨a1, a2⟩]
    exact pm_J.ri ⟨rfl, rfl⟩ (hn := (pk_charN (hb _)).1)
end PG3
end
section
section TXT
variable {l : Launch}
abbrev txW (ty : Nat → Int32) (sz at' : Int32) : List pm_E := [.inr (3, [.ref 1, .int sz, .int at']), .inl (.char, 160, .inl ty)]
def Ch (t : Nat → Nat) : Prop := ∀ j, t j < 65536
theorem c_isFull (hs : l.stackTraces = false) (ty : Nat → Int32) (n : Nat) (a : Int32) (hn : n ≤ 160) : pm_Met l mX3_isFull 1 0 0 [.ref 0] (txW ty (nI n) a) (isI (nI (b2n (decide (160 ≤ n)))) (txW ty (nI n) a)) := by
  refine pm_Met.mk kX3_isFull hs (pm_J.run [] 20 (fun K hK => And.intro (fun q => hK _ ?_) (fun q => hK _ ?_)))
  · have q' : nI n < nI 160 := q
    rw [nI_ltI (by omega) (by decide)] at q'
    exact pm_J.ri ⟨by rw [decide_eq_false (by omega)]; rfl, rfl⟩ (hn := rfl)
  · have q' : ¬ nI n < nI 160 := q
    rw [nI_ltI (by omega) (by decide)] at q'
    exact pm_J.ri ⟨by rw [decide_eq_true (by omega)]; rfl, rfl⟩ (hn := rfl)
theorem c_add (hs : l.stackTraces = false) (t : Nat → Nat) (n v : Nat) (a : Int32) (hn : n < 160) (hv : v < 65536) : pm_Met l mX3_add 1 0 0 [.ref 0, .int (nI v)] (txW (nA t) (nI n) a) (isI (nI (n + 1)) (txW (nA (upN t n v)) (nI (n + 1)) a)) := by
  refine pm_Met.mk kX3_add hs (pm_J.run [] 40 (fun K hK => br_f (nI_ge (a := n) (b := 160) hn (by decide)) (And.intro (vp_in_nI hn (by decide)) (hK _ ?_))))
  rw [nar_char hv, nI_clamp (by omega)]
  refine pm_J.ri ⟨by rw [← nI_add n 1]; rfl, ?_⟩
  rw [← nA_upd, ← nI_add n 1]
  rfl
theorem c_empty (hs : l.stackTraces = false) (ty : Nat → Int32) (n a : Int32) : pm_Met l mX3_empty 1 0 0 [.ref 0] (txW ty n a) (isO none (txW ty (nI 0) a)) := by
  refine pm_Met.mk kX3_empty hs (pm_J.run [] 20 (fun K hK => hK _ ?_))
  exact pm_J.rv ⟨rfl, rfl⟩
theorem c_place (hs : l.stackTraces = false) (ty : Nat → Int32) (n a : Int32) : pm_Met l mX3_place 1 0 0 [.ref 0] (txW ty n a) (isI a (txW ty n a)) := by
  refine pm_Met.mk kX3_place hs (pm_J.run [] 20 (fun K hK => hK _ ?_))
  exact pm_J.ri ⟨rfl, rfl⟩
def hereB (t : Nat → Nat) (n a v : Nat) : Bool := decide (a < n ∧ t a = v)
abbrev txW' (t : Nat → Nat) (n a : Nat) : List pm_E := txW (nA t) (nI n) (nI a)
theorem c_isHere (hs : l.stackTraces = false) (t : Nat → Nat) (n a v : Nat) (hn : n ≤ 160) (ha : a ≤ n) (ht : Ch t) (hv : v < 65536) : pm_Met l mX3_isHere 1 0 0 [.ref 0, .int (nI v)] (txW' t n a) (isI (nI (b2n (hereB t n a v))) (txW' t n a)) := by
  have hta := ht a
  refine pm_Met.mk kX3_isHere hs (pm_J.run [] 40 (fun K hK => And.intro (fun q => hK _ ?_) (fun q => ?_)))
  · have q' : nI n ≤ nI a := q
    rw [nI_leI (by omega) (by omega)] at q'
    exact pm_J.ri ⟨by rw [hereB, decide_eq_false (by omega)]; rfl, rfl⟩ (hn := rfl)
  · have q' : ¬ nI n ≤ nI a := q
    rw [nI_leI (by omega) (by omega)] at q'
    have ea : (nI a).toNatClampNeg = a := nI_clamp (by omega)
    refine And.intro (vp_in_nI (by omega) (by decide)) (And.intro (fun g => hK _ ?_) (fun g => hK _ ?_))
    · have g' : ¬ nI (t (nI a).toNatClampNeg) = nI v := g
      rw [ea, nI_eq (by omega) (by omega)] at g'
      exact pm_J.ri ⟨by rw [hereB, decide_eq_false (fun z => g' z.2)]; rfl, rfl⟩ (hn := rfl)
    · have g' : ¬ ¬ nI (t (nI a).toNatClampNeg) = nI v := g
      rw [ea, nI_eq (by omega) (by omega)] at g'
      exact pm_J.ri ⟨by rw [hereB, decide_eq_true ⟨by omega, Classical.not_not.mp g'⟩]; rfl, rfl⟩ (hn := rfl)
def tkF (t : Nat → Nat) (n a v : Nat) : Nat := if hereB t n a v then a + 1 else a
theorem tkF_le {t : Nat → Nat} {n a v : Nat} (h : a ≤ n) : tkF t n a v ≤ n := by
  unfold tkF hereB
  split
  · rename_i q
    have := (of_decide_eq_true q).1
    omega
  · exact h
theorem c_take (hs : l.stackTraces = false) (t : Nat → Nat) (n a v : Nat) (hn : n ≤ 160) (ha : a ≤ n) (ht : Ch t) (hv : v < 65536) : pm_Met l mX3_take 2 0 0 [.ref 0, .int (nI v)] (txW' t n a) (isI (nI (b2n (hereB t n a v))) (txW' t n (tkF t n a v))) := by
  refine pm_Met.mk kX3_take hs (pm_J.run [] 40 (fun K hK => hK _ ?_))
  refine pm_J.cI [0, 1] (c_isHere hs t n a v hn ha ht hv) gRX3_41 vX3_isHere ?_
  unfold tkF
  cases hm : hereB t n a v with
  | true =>
    refine pm_J.run [] 40 (fun K hK => br_t (by decide) (hK _ ?_))
    refine pm_J.ri ⟨rfl, ?_⟩ (hn := rfl)
    rw [if_pos rfl]
    show _ = txW (nA t) (nI n) (nI (a + 1))
    rw [← nI_add a 1]
    rfl
  | false =>
    refine pm_J.run [] 40 (fun K hK => br_f (by decide) (hK _ ?_))
    refine pm_J.ri ⟨rfl, ?_⟩ (hn := rfl)
    rw [if_neg (by decide)]
def rsS (t : Nat → Nat) (n lm a0 : Nat) : Nat → Nat × Nat × Nat
  | 0 => (0, 0, a0)
  | i + 1 => if (rsS t n lm a0 i).2.1 < lm ∧ hereB t n (rsS t n lm a0 i).2.2 (48 + i) = true then ((rsS t n lm a0 i).1 ||| 2 ^ i, (rsS t n lm a0 i).2.1 + 1, (rsS t n lm a0 i).2.2 + 1) else rsS t n lm a0 i
theorem rsS_stop {t : Nat → Nat} {n lm a0 i : Nat} (h : ¬ (rsS t n lm a0 i).2.1 < lm) : ∀ j, rsS t n lm a0 (i + j) = rsS t n lm a0 i
  | 0 => rfl
  | j + 1 => by
    have ih := rsS_stop h j
    rw [← Nat.add_assoc, rsS, ih, if_neg (fun z => h z.1)]
theorem rsS_ok {t : Nat → Nat} {n lm a0 : Nat} (h : a0 ≤ n) : ∀ i, i ≤ 4 → (rsS t n lm a0 i).1 < 2 ^ i ∧ (rsS t n lm a0 i).2.1 ≤ i ∧ (rsS t n lm a0 i).2.2 ≤ n
  | 0, _ => ⟨(by decide : 0 < 1), Nat.le_refl _, h⟩
  | i + 1, hi => by
    obtain ⟨h1, h2, h3⟩ := rsS_ok (t := t) (lm := lm) h i (by omega)
    have hp : 2 ^ i < 2 ^ (i + 1) := Nat.pow_lt_pow_right (by decide) (by omega)
    unfold rsS
    split
    · rename_i q
      have := (of_decide_eq_true q.2).1
      refine ⟨Nat.or_lt_two_pow (by omega) hp, ?_, ?_⟩
      · show _ + 1 ≤ i + 1; omega
      · show _ + 1 ≤ n; omega
    · exact ⟨by omega, by omega, h3⟩
set_option maxHeartbeats 1000000 in
theorem c_rising (hs : l.stackTraces = false) (t : Nat → Nat) (n a lm : Nat) (hn : n ≤ 160) (ha : a ≤ n) (ht : Ch t) (hl : lm ≤ 4) : pm_Met l mX3_takeRisingStates 3 0 0 [.ref 0, .int (nI lm)] (txW' t n a) (isI (nI (rsS t n lm a 4).1) (txW' t n (rsS t n lm a 4).2.2)) := by
  refine pm_Met.mk kX3_takeRisingStates hs (pm_J.run [7] 40 (fun K hK => hK _ ?_))
  refine pm_up (b := 4) (P := fun i => pm_J l mX3_takeRisingStates iX3_takeRisingStates 3 0 0 2 (isI (nI (rsS t n lm a 4).1) (txW' t n (rsS t n lm a 4).2.2)) 0 0 (7, [some (.ref 0), some (.int (nI lm)), some (.int (nI (rsS t n lm a i).1)), some (.int (nI (rsS t n lm a i).2.1)), some (.int (nI i))], [], txW' t n (rsS t n lm a i).2.2)) 0 (by decide) ?_ (fun i h1 h2 ih => ?_)
  · refine pm_J.run [7] 40 (fun K hK => br_t (nI_le (a := 4) (b := 4) (by decide) (by decide)) (hK _ ?_))
    exact pm_J.ri ⟨rfl, rfl⟩
  · obtain ⟨r1, r2, r3⟩ := rsS_ok (t := t) (lm := lm) ha i (by omega)
    have hp : 2 ^ i ≤ 2 ^ 4 := Nat.pow_le_pow_right (by decide) (by omega)
    refine pm_J.run [7] 40 (fun K hK => br_f (nI_ge (a := i) (b := 4) h2 (by decide)) (And.intro (fun q => hK _ ?_) (fun q => hK _ ?_)))
    · have q' : nI lm ≤ nI (rsS t n lm a i).2.1 := q
      rw [nI_leI (by omega) (by omega)] at q'
      have e := rsS_stop (t := t) (n := n) (a0 := a) (i := i) (lm := lm) (by omega) (4 - i)
      rw [show i + (4 - i) = 4 by omega] at e
      rw [e]
      exact pm_J.ri ⟨rfl, rfl⟩
    · have q' : ¬ nI lm ≤ nI (rsS t n lm a i).2.1 := q
      rw [nI_leI (by omega) (by omega)] at q'
      have ei : ((pm_k 48 + nI i).toUInt32 % 65536).toInt32 = nI (48 + i) := by
        show ((nI 48 + nI i).toUInt32 % 65536).toInt32 = nI (48 + i)
        rw [nI_add]; exact i2c_at (by omega)
      rw [ei]
      refine pm_J.ciw [0, 1] (txW' t n (tkF t n (rsS t n lm a i).2.2 (48 + i))) (c_take hs t n (rsS t n lm a i).2.2 (48 + i) hn r3 ht (by omega)) gRX3_34 vX3_take ?_
      unfold tkF
      cases hm : hereB t n (rsS t n lm a i).2.2 (48 + i) with
      | true =>
        have e : rsS t n lm a (i + 1) = ((rsS t n lm a i).1 ||| 2 ^ i, (rsS t n lm a i).2.1 + 1, (rsS t n lm a i).2.2 + 1) := by rw [rsS, if_pos ⟨by omega, hm⟩]
        rw [e] at ih
        dsimp only at ih
        rw [← nx_or, ← nI_shl1 (by omega), ← nI_add i 1, ← nI_add (rsS t n lm a i).2.1 1] at ih
        rw [if_pos rfl]
        refine pm_J.run [7] 40 (fun K hK => br_f (by decide) (hK _ ?_))
        exact ih
      | false =>
        have e : rsS t n lm a (i + 1) = rsS t n lm a i := by rw [rsS, if_neg (fun z => by rw [hm] at z; cases z.2)]
        rw [e, ← nI_add i 1] at ih
        rw [if_neg (by decide)]
        refine pm_J.run [7] 40 (fun K hK => br_t (by decide) (hK _ ?_))
        exact ih
/-- an entry: its set (0: at fault), and where the reading stands -/
def enF (t : Nat → Nat) (n a : Nat) : Nat × Nat :=
  if hereB t n a 63 then (15, a + 1) else
  if hereB t n a 123 then
    (if (rsS t n 4 (a + 1) 4).1 = 0 then (0, (rsS t n 4 (a + 1) 4).2.2) else if hereB t n (rsS t n 4 (a + 1) 4).2.2 125 then ((rsS t n 4 (a + 1) 4).1, (rsS t n 4 (a + 1) 4).2.2 + 1) else (0, (rsS t n 4 (a + 1) 4).2.2))
  else ((rsS t n 1 a 4).1, (rsS t n 1 a 4).2.2)
theorem here_lt {t : Nat → Nat} {n a v : Nat} (h : hereB t n a v = true) : a < n := (of_decide_eq_true h).1
theorem enF_ok {t : Nat → Nat} {n a : Nat} (h : a ≤ n) : (enF t n a).1 < 16 ∧ (enF t n a).2 ≤ n := by
  unfold enF
  split
  · rename_i q
    exact ⟨(by decide : 15 < 16), here_lt q⟩
  · split
    · rename_i q
      have q1 := here_lt q
      obtain ⟨h1, h2, h3⟩ := rsS_ok (t := t) (n := n) (lm := 4) (a0 := a + 1) (by omega) 4 (by decide)
      split
      · exact ⟨(by decide : 0 < 16), h3⟩
      · split
        · rename_i q2
          exact ⟨h1, here_lt q2⟩
        · exact ⟨(by decide : 0 < 16), h3⟩
    · obtain ⟨h1, h2, h3⟩ := rsS_ok (t := t) (n := n) (lm := 1) (a0 := a) h 4 (by decide)
      exact ⟨h1, h3⟩
theorem c_entry (hs : l.stackTraces = false) (t : Nat → Nat) (n a : Nat) (hn : n ≤ 160) (ha : a ≤ n) (ht : Ch t) : pm_Met l mX3_takeEntry 4 0 0 [.ref 0] (txW' t n a) (isI (nI (enF t n a).1) (txW' t n (enF t n a).2)) := by
  refine pm_Met.mk kX3_takeEntry hs (pm_J.run [] 40 (fun K hK => hK _ ?_))
  refine pm_J.ciw [0, 1] (txW' t n (tkF t n a 63)) (c_take hs t n a 63 hn ha ht (by decide)) gRX3_34 vX3_take ?_
  unfold tkF
  cases hm : hereB t n a 63 with
  | true =>
    have e : enF t n a = (15, a + 1) := by rw [enF, hm, if_pos rfl]
    rw [e, if_pos rfl]
    refine pm_J.run [] 40 (fun K hK => br_f (by decide) (hK _ ?_))
    exact pm_J.ri ⟨rfl, rfl⟩
  | false =>
    rw [if_neg Bool.false_ne_true]
    refine pm_J.run [] 40 (fun K hK => br_t (by decide) (hK _ ?_))
    refine pm_J.ciw [0, 1] (txW' t n (tkF t n a 123)) (c_take hs t n a 123 hn ha ht (by decide)) gRX3_34 vX3_take ?_
    unfold tkF
    cases hm2 : hereB t n a 123 with
    | true =>
      have hlt := here_lt hm2
      have e : enF t n a = (if (rsS t n 4 (a + 1) 4).1 = 0 then (0, (rsS t n 4 (a + 1) 4).2.2) else if hereB t n (rsS t n 4 (a + 1) 4).2.2 125 then ((rsS t n 4 (a + 1) 4).1, (rsS t n 4 (a + 1) 4).2.2 + 1) else (0, (rsS t n 4 (a + 1) 4).2.2)) := by rw [enF, hm, if_neg Bool.false_ne_true, hm2, if_pos rfl]
      rw [e, if_pos rfl]
      refine pm_J.run [] 40 (fun K hK => br_f (by decide) (hK _ ?_))
      refine pm_J.ciw [0, 1] (txW' t n (rsS t n 4 (a + 1) 4).2.2) (c_rising hs t n (a + 1) 4 hn (by omega) ht (by decide)) gRX3_52 vX3_takeRisingStates ?_
      obtain ⟨h1, h2, h3⟩ := rsS_ok (t := t) (n := n) (lm := 4) (a0 := a + 1) (by omega) 4 (by decide)
      generalize rsS t n 4 (a + 1) 4 = z at h1 h2 h3 ⊢
      obtain ⟨z1, z2, z3⟩ := z
      dsimp only at h1 h2 h3 ⊢
      refine pm_J.run [] 40 (fun K hK => And.intro (fun q => hK _ ?_) (fun q => hK _ ?_))
      · have q' : nI z1 = 0 := q
        rw [nI_z (by omega)] at q'
        rw [if_pos q']
        exact pm_J.ri ⟨rfl, rfl⟩
      · have q' : ¬ nI z1 = 0 := q
        rw [nI_z (by omega)] at q'
        rw [if_neg q']
        refine pm_J.ciw [0, 1] (txW' t n (tkF t n z3 125)) (c_take hs t n z3 125 hn h3 ht (by decide)) gRX3_34 vX3_take ?_
        unfold tkF
        cases hm3 : hereB t n z3 125 with
        | true =>
          rw [if_pos rfl, if_pos rfl]
          refine pm_J.run [] 40 (fun K hK => br_f (by decide) (hK _ ?_))
          exact pm_J.ri ⟨rfl, rfl⟩
        | false =>
          rw [if_neg Bool.false_ne_true, if_neg Bool.false_ne_true]
          refine pm_J.run [] 40 (fun K hK => br_t (by decide) (hK _ ?_))
          exact pm_J.ri ⟨rfl, rfl⟩
    | false =>
      have e : enF t n a = ((rsS t n 1 a 4).1, (rsS t n 1 a 4).2.2) := by rw [enF, hm, if_neg Bool.false_ne_true, hm2, if_neg Bool.false_ne_true]
      rw [e, if_neg Bool.false_ne_true]
      refine pm_J.run [] 40 (fun K hK => br_t (by decide) (hK _ ?_))
      refine pm_J.ciw [0, 1] (txW' t n (rsS t n 1 a 4).2.2) (c_rising hs t n a 1 hn ha ht (by decide)) gRX3_52 vX3_takeRisingStates ?_
      exact pm_J.ri ⟨rfl, rfl⟩
end TXT
end
section
section TX2
variable {l : Launch}
/-- a row's entries: whether all went well, how many, where the reading stands, the rows -/
def rwL (t : Nat → Nat) (n kd : Nat) : Nat → Nat → Nat → (Nat → Int64) → Bool × Nat × Nat × (Nat → Int64)
  | 0, e, a, r => (true, e, a, r)
  | f + 1, e, a, r => if (kd = 0 ∧ 0 < e) ∧ hereB t n a 59 = true then (true, e, a, r) else
    if (enF t n a).1 = 0 then (false, e, (enF t n a).2, r) else rwL t n kd f (e + 1) (enF t n a).2 (vp_updL r kd (r kd ||| lN ((enF t n a).1 * 16 ^ e)))
theorem rwL_s (t : Nat → Nat) (n kd f e a : Nat) (r : Nat → Int64) : rwL t n kd (f + 1) e a r = if (kd = 0 ∧ 0 < e) ∧ hereB t n a 59 = true then (true, e, a, r) else
    if (enF t n a).1 = 0 then (false, e, (enF t n a).2, r) else rwL t n kd f (e + 1) (enF t n a).2 (vp_updL r kd (r kd ||| lN ((enF t n a).1 * 16 ^ e))) := rfl
theorem rwL_ok {t : Nat → Nat} {n kd : Nat} : ∀ (f e a : Nat) (r : Nat → Int64), a ≤ n → (rwL t n kd f e a r).2.2.1 ≤ n ∧ (rwL t n kd f e a r).2.1 ≤ e + f
  | 0, e, a, r, h => ⟨h, Nat.le_refl _⟩
  | f + 1, e, a, r, h => by
    rw [rwL_s]
    split
    · exact ⟨h, by show e ≤ e + (f + 1); omega⟩
    · split
      · exact ⟨(enF_ok h).2, by show e ≤ e + (f + 1); omega⟩
      · have := rwL_ok (t := t) (n := n) (kd := kd) f (e + 1) (enF t n a).2 (vp_updL r kd (r kd ||| lN ((enF t n a).1 * 16 ^ e))) (enF_ok h).2
        exact ⟨this.1, by omega⟩
/-- a row: whether it is one, where the reading stands, the rows, how many characters -/
def rwF (t : Nat → Nat) (n kd a : Nat) (r : Nat → Int64) (c : Nat) : Bool × Nat × (Nat → Int64) × Nat :=
  if hereB t n a (97 + kd) = false then (false, a, r, c) else
  if hereB t n (a + 1) 32 = false then (false, a + 1, r, c) else
  if (rwL t n kd (if kd = 0 then 16 else c) 0 (a + 2) r).1 = true then
    (hereB t n (rwL t n kd (if kd = 0 then 16 else c) 0 (a + 2) r).2.2.1 59, tkF t n (rwL t n kd (if kd = 0 then 16 else c) 0 (a + 2) r).2.2.1 59, (rwL t n kd (if kd = 0 then 16 else c) 0 (a + 2) r).2.2.2, (rwL t n kd (if kd = 0 then 16 else c) 0 (a + 2) r).2.1)
  else (false, (rwL t n kd (if kd = 0 then 16 else c) 0 (a + 2) r).2.2.1, (rwL t n kd (if kd = 0 then 16 else c) 0 (a + 2) r).2.2.2, c)
set_option maxHeartbeats 2000000 in
theorem c_row (hs : l.stackTraces = false) (t : Nat → Nat) (n kd a : Nat) (r : Nat → Int64) (wt : Nat → Nat) (k c : Nat) (hn : n ≤ 160) (ha : a ≤ n) (ht : Ch t) (hkd : kd < 7) (hc : c ≤ 16) :
    pm_Met l mX3_takeRow 5 0 0 [.ref 0, .int (nI kd), .ref 2] (txW' t n a ++ tbAt 2 r wt k c) (isI (nI (b2n (rwF t n kd a r c).1)) (txW' t n (rwF t n kd a r c).2.1 ++ tbAt 2 (rwF t n kd a r c).2.2.1 wt k (rwF t n kd a r c).2.2.2)) := by
  refine pm_Met.mk kX3_takeRow hs (pm_J.run [] 40 (fun K hK => hK _ ?_))
  have ei : ((pm_k 97 + nI kd).toUInt32 % 65536).toInt32 = nI (97 + kd) := by
    show ((nI 97 + nI kd).toUInt32 % 65536).toInt32 = nI (97 + kd)
    rw [nI_add]; exact i2c_at (by omega)
  rw [ei]
  refine pm_J.ciw [0, 1] (txW' t n (tkF t n a (97 + kd)) ++ tbAt 2 r wt k c) (c_take hs t n a (97 + kd) hn ha ht (by omega)) gRX3_34 vX3_take ?_
  unfold tkF
  cases hm : hereB t n a (97 + kd) with
  | false =>
    have e : rwF t n kd a r c = (false, a, r, c) := by rw [rwF, if_pos hm]
    rw [e, if_neg Bool.false_ne_true]
    refine pm_J.run [] 40 (fun K hK => br_t (by decide) (hK _ ?_))
    exact pm_J.ri ⟨rfl, rfl⟩ (hn := rfl)
  | true =>
    have hlt := here_lt hm
    rw [if_pos rfl]
    refine pm_J.run [] 40 (fun K hK => br_f (by decide) (hK _ ?_))
    refine pm_J.ciw [0, 1] (txW' t n (tkF t n (a + 1) 32) ++ tbAt 2 r wt k c) (c_take hs t n (a + 1) 32 hn (by omega) ht (by decide)) gRX3_34 vX3_take ?_
    unfold tkF
    cases hm2 : hereB t n (a + 1) 32 with
    | false =>
      have e : rwF t n kd a r c = (false, a + 1, r, c) := by rw [rwF, if_neg (by rw [hm]; decide), if_pos hm2]
      rw [e, if_neg Bool.false_ne_true]
      refine pm_J.run [] 40 (fun K hK => br_f (by decide) (hK _ ?_))
      exact pm_J.ri ⟨rfl, rfl⟩ (hn := rfl)
    | true =>
      have hlt2 := here_lt hm2
      rw [if_pos rfl]
      have e0 : rwF t n kd a r c = if (rwL t n kd (if kd = 0 then 16 else c) 0 (a + 2) r).1 = true then
          (hereB t n (rwL t n kd (if kd = 0 then 16 else c) 0 (a + 2) r).2.2.1 59, tkF t n (rwL t n kd (if kd = 0 then 16 else c) 0 (a + 2) r).2.2.1 59, (rwL t n kd (if kd = 0 then 16 else c) 0 (a + 2) r).2.2.2, (rwL t n kd (if kd = 0 then 16 else c) 0 (a + 2) r).2.1)
        else (false, (rwL t n kd (if kd = 0 then 16 else c) 0 (a + 2) r).2.2.1, (rwL t n kd (if kd = 0 then 16 else c) 0 (a + 2) r).2.2.2, c) := by rw [rwF, if_neg (by rw [hm]; decide), if_neg (by rw [hm2]; decide)]
      generalize hmo : (if kd = 0 then 16 else c) = mo at e0
      have hmo16 : mo ≤ 16 := by rw [← hmo]; split <;> omega
      generalize hO : isI (nI (b2n (rwF t n kd a r c).1)) (txW' t n (rwF t n kd a r c).2.1 ++ tbAt 2 (rwF t n kd a r c).2.2.1 wt k (rwF t n kd a r c).2.2.2) = O
      -- the end of a row
      have fin : ∀ e a' r' x5, e ≤ 16 → a' ≤ n → rwL t n kd mo 0 (a + 2) r = (true, e, a', r') → pm_J l mX3_takeRow iX3_takeRow 5 0 0 5 O 0 0 (95, [some (.ref 0), some (.int (nI kd)), some (.ref 2), some (.int (nI mo)), some (.int (nI e)), x5], [], txW' t n a' ++ tbAt 2 r' wt k c) := by
        intro e a' r' x5 he ha' hz
        rw [← hO, e0, hz]
        refine pm_J.run [] 40 (fun K hK => hK _ ?_)
        refine pm_J.ciw [0, 1] (txW' t n (tkF t n a' 59) ++ tbAt 2 r' wt k e) (c_take hs t n a' 59 hn ha' ht (by decide)) gRX3_34 vX3_take ?_
        rw [if_pos rfl]
        refine pm_J.ri ⟨rfl, rfl⟩ (hn := ?_)
        cases hereB t n a' 59 <;> rfl
      have loop : ∀ f e a' r' x5, e + f = mo → a' ≤ n → rwL t n kd f e a' r' = rwL t n kd mo 0 (a + 2) r → pm_J l mX3_takeRow iX3_takeRow 5 0 0 5 O 0 0 (40, [some (.ref 0), some (.int (nI kd)), some (.ref 2), some (.int (nI mo)), some (.int (nI e)), x5], [], txW' t n a' ++ tbAt 2 r' wt k c) := by
        intro f
        induction f with
        | zero =>
          intro e a' r' x5 hef ha' hz
          refine pm_J.run [95] 40 (fun K hK => br_t (nI_le (a := mo) (b := e) (by omega) (by omega)) (hK _ ?_))
          exact fin e a' r' x5 (by omega) ha' hz.symm
        | succ f ih =>
          intro e a' r' x5 hef ha' hz
          rw [rwL_s] at hz
          obtain ⟨n1, n2⟩ := enF_ok (t := t) ha'
          have entry : ¬ ((kd = 0 ∧ 0 < e) ∧ hereB t n a' 59 = true) → pm_J l mX3_takeRow iX3_takeRow 5 0 0 5 O 0 0 (67, [some (.ref 0), some (.int (nI kd)), some (.ref 2), some (.int (nI mo)), some (.int (nI e)), x5], [], txW' t n a' ++ tbAt 2 r' wt k c) := by
            intro hq
            rw [if_neg hq] at hz
            refine pm_J.run [] 40 (fun K hK => hK _ ?_)
            refine pm_J.ciw [0, 1] (txW' t n (enF t n a').2 ++ tbAt 2 r' wt k c) (c_entry hs t n a' hn ha' ht) gRX3_44 vX3_takeEntry ?_
            refine pm_J.run [40] 40 (fun K hK => And.intro (fun q => hK _ ?_) (fun q => hK _ ?_))
            · have q' : ¬ nI (enF t n a').1 = 0 := q
              rw [nI_z (by omega)] at q'
              rw [if_neg q'] at hz
              refine pm_J.cv [2, 3, 4] (txW' t n (enF t n a').2 ++ tbAt 2 (vp_updL r' kd (r' kd ||| lN ((enF t n a').1 * 16 ^ e))) wt k c) (c_put hs r' wt k c kd e (enF t n a').1 hkd (by omega) n1) gRX3_48 vX2_put ?_
              refine pm_J.run [40] 40 (fun K hK => hK _ ?_)
              have := ih (e + 1) (enF t n a').2 (vp_updL r' kd (r' kd ||| lN ((enF t n a').1 * 16 ^ e))) (some (.int (nI (enF t n a').1))) (by omega) n2 hz
              rw [← nI_add e 1] at this
              exact this
            · have q' : ¬ ¬ nI (enF t n a').1 = 0 := q
              rw [nI_z (by omega)] at q'
              rw [if_pos (Classical.not_not.mp q')] at hz
              rw [← hO, e0, ← hz]
              exact pm_J.ri ⟨rfl, rfl⟩ (hn := rfl)
          refine pm_J.run [67, 95] 40 (fun K hK => br_f (nI_ge (a := e) (b := mo) (by omega) (by omega)) (And.intro (fun q => hK _ ?_) (fun q => And.intro (fun q2 => hK _ ?_) (fun q2 => hK _ ?_))))
          · have q' : ¬ nI kd = 0 := q
            rw [nI_z (by omega)] at q'
            exact entry (fun z => q' z.1.1)
          · have q2' : nI e ≤ 0 := q2
            rw [← nI_0, nI_leI (by omega) (by decide)] at q2'
            exact entry (fun z => by omega)
          · have q' : ¬ ¬ nI kd = 0 := q
            have q2' : ¬ nI e ≤ 0 := q2
            rw [nI_z (by omega)] at q'
            rw [← nI_0, nI_leI (by omega) (by decide)] at q2'
            refine pm_J.cI [0, 1] (c_isHere hs t n a' 59 hn ha' ht (by decide)) gRX3_41 vX3_isHere ?_
            cases hm3 : hereB t n a' 59 with
            | true =>
              refine pm_J.run [67, 95] 40 (fun K hK => br_f (by decide) (hK _ ?_))
              rw [if_pos ⟨⟨Classical.not_not.mp q', by omega⟩, hm3⟩] at hz
              exact fin e a' r' x5 (by omega) ha' hz.symm
            | false =>
              refine pm_J.run [67, 95] 40 (fun K hK => br_t (by decide) (hK _ ?_))
              exact entry (fun z => by rw [hm3] at z; cases z.2)
      have start := loop mo 0 (a + 2) r none (by omega) (by omega) rfl
      refine pm_J.run [40] 40 (fun K hK => br_t (by decide) (And.intro (fun q => hK _ ?_) (fun q => hK _ ?_)))
      · have q' : ¬ nI kd = 0 := q
        rw [nI_z (by omega)] at q'
        rw [if_neg q'] at hmo
        subst hmo
        exact start
      · have q' : ¬ ¬ nI kd = 0 := q
        rw [nI_z (by omega)] at q'
        rw [if_pos (Classical.not_not.mp q')] at hmo
        subst hmo
        exact start
/-- the whole text: whether it is a table, where the reading stands, rows, kinds, characters -/
def rdF (t : Nat → Nat) (n : Nat) : Nat → Nat → Nat → (Nat → Int64) → Nat → Nat → Bool × Nat × (Nat → Int64) × Nat × Nat
  | 0, _, a, r, k, c => (false, a, r, k, c)
  | f + 1, kd, a, r, k, c => if (rwF t n kd a r c).1 = false then (false, (rwF t n kd a r c).2.1, (rwF t n kd a r c).2.2.1, k, (rwF t n kd a r c).2.2.2) else
    if (rwF t n kd a r c).2.1 = n then (true, n, (rwF t n kd a r c).2.2.1, kd + 1, (rwF t n kd a r c).2.2.2) else rdF t n f (kd + 1) (rwF t n kd a r c).2.1 (rwF t n kd a r c).2.2.1 (kd + 1) (rwF t n kd a r c).2.2.2
theorem rdF_s (t : Nat → Nat) (n f kd a : Nat) (r : Nat → Int64) (k c : Nat) : rdF t n (f + 1) kd a r k c = if (rwF t n kd a r c).1 = false then (false, (rwF t n kd a r c).2.1, (rwF t n kd a r c).2.2.1, k, (rwF t n kd a r c).2.2.2) else
    if (rwF t n kd a r c).2.1 = n then (true, n, (rwF t n kd a r c).2.2.1, kd + 1, (rwF t n kd a r c).2.2.2) else rdF t n f (kd + 1) (rwF t n kd a r c).2.1 (rwF t n kd a r c).2.2.1 (kd + 1) (rwF t n kd a r c).2.2.2 := rfl
theorem rwF_ok {t : Nat → Nat} {n kd a : Nat} {r : Nat → Int64} {c : Nat} (ha : a ≤ n) (hc : c ≤ 16) : (rwF t n kd a r c).2.1 ≤ n ∧ (rwF t n kd a r c).2.2.2 ≤ 16 := by
  unfold rwF
  split
  · exact ⟨ha, hc⟩
  · rename_i h1
    have h1' : hereB t n a (97 + kd) = true := by
      cases h : hereB t n a (97 + kd) with
      | true => rfl
      | false => exact absurd h h1
    have := here_lt h1'
    split
    · exact ⟨by show a + 1 ≤ n; omega, hc⟩
    · rename_i h2
      have h2' : hereB t n (a + 1) 32 = true := by
        cases h : hereB t n (a + 1) 32 with
        | true => rfl
        | false => exact absurd h h2
      have := here_lt h2'
      have hm : (if kd = 0 then 16 else c) ≤ 16 := by split <;> omega
      have := rwL_ok (t := t) (n := n) (kd := kd) (if kd = 0 then 16 else c) 0 (a + 2) r (by omega)
      generalize (if kd = 0 then 16 else c) = mo at hm this ⊢
      split
      · exact ⟨tkF_le this.1, by show (rwL t n kd mo 0 (a + 2) r).2.1 ≤ 16; omega⟩
      · exact ⟨this.1, hc⟩
set_option maxHeartbeats 1000000 in
theorem c_read (hs : l.stackTraces = false) (t : Nat → Nat) (n : Nat) (a0 : Int32) (r0 : Nat → Int64) (wt0 : Nat → Nat) (k0 c0 : Nat) (hn : n ≤ 160) (ht : Ch t) :
    pm_Met l mX3_readInto 6 0 0 [.ref 0, .ref 2] (txW (nA t) (nI n) a0 ++ tbAt 2 r0 wt0 k0 c0)
      (isI (nI (b2n (rdF t n 7 0 0 (fun j => if j < 7 then 0 else r0 j) 0 0).1)) (txW' t n (rdF t n 7 0 0 (fun j => if j < 7 then 0 else r0 j) 0 0).2.1 ++ tbAt 2 (rdF t n 7 0 0 (fun j => if j < 7 then 0 else r0 j) 0 0).2.2.1 (fun j => if j < 16 then 1 else wt0 j) (rdF t n 7 0 0 (fun j => if j < 7 then 0 else r0 j) 0 0).2.2.2.1 (rdF t n 7 0 0 (fun j => if j < 7 then 0 else r0 j) 0 0).2.2.2.2)) := by
  refine pm_Met.mk kX3_readInto hs (pm_J.run [] 40 (fun K hK => hK _ ?_))
  generalize hr1 : (fun j => if j < 7 then (0 : Int64) else r0 j) = r1
  generalize hw1 : (fun j => if j < 16 then 1 else wt0 j) = w1
  have hM := c_clear hs r0 wt0 k0 c0
  rw [hr1, hw1] at hM
  refine pm_J.cv [2, 3, 4] (txW' t n 0 ++ tbAt 2 r1 w1 0 0) hM gRX3_22 vX2_clear ?_
  refine pm_J.run [11] 40 (fun K hK => hK _ ?_)
  generalize hO : isI (nI (b2n (rdF t n 7 0 0 r1 0 0).1)) (txW' t n (rdF t n 7 0 0 r1 0 0).2.1 ++ tbAt 2 (rdF t n 7 0 0 r1 0 0).2.2.1 w1 (rdF t n 7 0 0 r1 0 0).2.2.2.1 (rdF t n 7 0 0 r1 0 0).2.2.2.2) = O
  have loop : ∀ f kd a r k c, kd + f = 7 → a ≤ n → c ≤ 16 → rdF t n f kd a r k c = rdF t n 7 0 0 r1 0 0 → pm_J l mX3_readInto iX3_readInto 6 0 0 5 O 0 0 (11, [some (.ref 0), some (.ref 2), some (.int (nI kd))], [], txW' t n a ++ tbAt 2 r w1 k c) := by
    intro f
    induction f with
    | zero =>
      intro kd a r k c hkf ha hc hz
      refine pm_J.run [] 40 (fun K hK => br_t (nI_le (a := 7) (b := kd) (by omega) (by omega)) (hK _ ?_))
      rw [← hO, ← hz]
      exact pm_J.ri ⟨rfl, rfl⟩ (hn := rfl)
    | succ f ih =>
      intro kd a r k c hkf ha hc hz
      rw [rdF_s] at hz
      obtain ⟨o1, o2⟩ := rwF_ok (t := t) (kd := kd) (r := r) ha hc
      refine pm_J.run [] 40 (fun K hK => br_f (nI_ge (a := kd) (b := 7) (by omega) (by decide)) (hK _ ?_))
      refine pm_J.ciw [0, 1, 2, 3, 4] (txW' t n (rwF t n kd a r c).2.1 ++ tbAt 2 (rwF t n kd a r c).2.2.1 w1 k (rwF t n kd a r c).2.2.2) (c_row hs t n kd a r w1 k c hn ha ht (by omega) hc) gRX3_27 vX3_takeRow ?_
      generalize rwF t n kd a r c = z at hz o1 o2 ⊢
      obtain ⟨z1, z2, z3, z4⟩ := z
      dsimp only at hz o1 o2 ⊢
      cases z1 with
      | false =>
        rw [if_pos rfl] at hz
        refine pm_J.run [] 40 (fun K hK => br_f (fun z => z (by decide)) (hK _ ?_))
        rw [← hO, ← hz]
        exact pm_J.ri ⟨rfl, rfl⟩ (hn := rfl)
      | true =>
        rw [if_neg (by decide)] at hz
        refine pm_J.run [11] 40 (fun K hK => br_t (by decide) (And.intro (fun q => hK _ ?_) (fun q => hK _ ?_)))
        · have q' : ¬ nI z2 = nI n := q
          rw [nI_eq (by omega) (by omega)] at q'
          rw [if_neg q'] at hz
          have := ih (kd + 1) z2 z3 (kd + 1) z4 (by omega) o1 o2 hz
          have e : tbAt 2 z3 w1 (kd + 1) z4 = [.inr (2, [.ref (2 + 1), .ref (2 + 2), .int (nI kd + nI 1), .int (nI z4)]), .inl (.long, 7, .inr (.inl z3)), .inl (.int, 16, .inl (nA w1))] := by
            rw [nI_add kd 1]
          rw [e, ← nI_add kd 1] at this
          exact this
        · have q' : ¬ ¬ nI z2 = nI n := q
          rw [nI_eq (by omega) (by omega)] at q'
          have q2 := Classical.not_not.mp q'
          rw [if_pos q2] at hz
          rw [← hO, ← hz]
          subst q2
          refine pm_J.ri ⟨rfl, ?_⟩ (hn := rfl)
          have e : nI (kd + 1) = nI kd + nI 1 := (nI_add kd 1).symm
          show _ = txW' t z2 z2 ++ [.inr (2, [.ref (2 + 1), .ref (2 + 2), .int (nI (kd + 1)), .int (nI z4)]), .inl (.long, 7, .inr (.inl z3)), .inl (.int, 16, .inl (nA w1))]
          rw [e]
          rfl
  exact loop 7 0 0 r1 0 0 rfl (Nat.zero_le _) (by decide) rfl
end TX2
end
section
section RU3
variable {l : Launch} {I : pm_I} {M : pm_M} {d mc ms n cells slots : Nat} {O : pm_O → List pm_E → Prop}
theorem pm_J.riG {pc : Nat} {L : List (Option Value)} {w : List pm_E} {v : Int32} {ty : FieldType} (hO : O (.inl (some (.int v))) w) (hd : pm_find I.1 pc = some (.ireturn, 1) := by rfl) (hr : M.2.2.2.1 = some ty := by rfl) (hn : narrow ty (.int v) = .int v := by rfl) (hl : w.length = n := by rfl) (hcs : Nat.ble cells mc = true := by rfl) (hss : Nat.ble slots ms = true := by rfl) : pm_J l M I d mc ms n O cells slots (pc, L, [.int v], w) := pm_J.ret hd hr hn hl (Nat.le_of_ble_eq_true hcs) (Nat.le_of_ble_eq_true hss) hO
theorem pm_J.rvG {pc : Nat} {L : List (Option Value)} {w : List pm_E} (hO : O (.inl none) w) (hd : pm_find I.1 pc = some (.return_, 1) := by rfl) (hr : M.2.2.2.1 = none := by rfl) (hl : w.length = n := by rfl) (hcs : Nat.ble cells mc = true := by rfl) (hss : Nat.ble slots ms = true := by rfl) : pm_J l M I d mc ms n O cells slots (pc, L, [], w) := pm_J.retv hd hr hl (Nat.le_of_ble_eq_true hcs) (Nat.le_of_ble_eq_true hss) hO
theorem pm_J.rlG {pc : Nat} {L : List (Option Value)} {w : List pm_E} {v : Int64} (hO : O (.inl (some (.long v))) w) (hd : pm_find I.1 pc = some (.lreturn, 1) := by rfl) (hr : M.2.2.2.1 = some .long := by rfl) (hl : w.length = n := by rfl) (hcs : Nat.ble cells mc = true := by rfl) (hss : Nat.ble slots ms = true := by rfl) : pm_J l M I d mc ms n O cells slots (pc, L, [.long v], w) := pm_J.retl hd hr hl (Nat.le_of_ble_eq_true hcs) (Nat.le_of_ble_eq_true hss) hO
theorem pm_J.rfG {pc : Nat} {L : List (Option Value)} {w : List pm_E} {v : UInt32} (hO : O (.inl (some (.float v))) w) (hd : pm_find I.1 pc = some (.freturn, 1) := by rfl) (hr : M.2.2.2.1 = some .float := by rfl) (hl : w.length = n := by rfl) (hcs : Nat.ble cells mc = true := by rfl) (hss : Nat.ble slots ms = true := by rfl) : pm_J l M I d mc ms n O cells slots (pc, L, [.float v], w) := pm_J.retf hd hr hl (Nat.le_of_ble_eq_true hcs) (Nat.le_of_ble_eq_true hss) hO
theorem pm_J.clG {pc ix ci k0 d' : Nat} {L : List (Option Value)} {st rest As : List Value} {w wc w1 : List pm_E} {M' : pm_M} {fs : List Value} {qc : vw_C} {v : Option Value} (q : List Nat)
    (hM : pm_Met l M' d' 0 0 (.ref k0 :: As) wc (isO v w1))
    (hw : ∀ x ∈ wsV M.2.2.2.2 ix qc.1 M'.1 [Cond.code M'.1 M'.2.1 M'.2.2.1 M'.2.2.2.1], x ∈ pm_tb)
    (hy : M'.1.cls = qc.1 ∧ M'.1.cls ≠ "java/lang/invoke/MethodHandle" ∧ M'.1.cls ≠ "java/lang/invoke/VarHandle" ∧ (parseMethodDescriptor M'.1.desc).map (fun d => d.parameters.length) = some As.length)
    (kr : pm_J l M I d mc ms n O cells slots (pc + 3, L, (v.map (pm_v (pm_rn q))).toList ++ rest, pm_bk (pm_rn q) w q w1))
    (hd : pm_find I.1 pc = some (.invokevirtual ix, 3) := by rfl) (hst : st = ((Value.ref k0 :: As).map (pm_v (pm_rn q))).reverse ++ rest := by rfl) (hf1 : va_nd q = true := by rfl) (hf2 : q.map (fun h => pm_nth w h) = wc.map (fun c => some (pm_rc (pm_rn q) c)) := by rfl) (hn : w.length = n := by rfl) (hr : wc[k0]? = some (.inr (ci, fs)) := by rfl) (hqc : vwCl[ci]? = some qc := by rfl)
    (hrest : Nat.ble (rest.map Value.category).sum 8 = true := by rfl) (hdd : Nat.ble (d' + 1) d = true := by rfl) (hml : Nat.ble M'.2.2.1 81 = true := by rfl) (hcs : Nat.ble cells mc = true := by rfl) (hss : Nat.ble slots ms = true := by rfl) : pm_J l M I d mc ms n O cells slots (pc, L, st, w) :=
  pm_J.call q hM hd hw hy hst ⟨hf1, hf2⟩ hn hr hqc (Nat.le_of_ble_eq_true hrest) (Nat.le_of_ble_eq_true hdd) (Nat.le_of_ble_eq_true hml) (Nat.le_of_ble_eq_true hcs) (Nat.le_of_ble_eq_true hss) (fun E w1 h _ => by cases h.1) (fun v' w1' h _ => by obtain ⟨h1, h2⟩ := h; cases h1; subst h2; exact kr)
section
variable {pc ix ci k0 d' : Nat} {L : List (Option Value)} {st rest As : List Value} {w wc w1 : List pm_E} {M' : pm_M} {fs : List Value} {qc : vw_C}
/-- a call that answers an int and leaves all as it was -/
theorem pm_J.cIG {x : Int32} (q : List Nat) (hM : pm_Met l M' d' 0 0 (.ref k0 :: As) wc (isO (some (.int x)) wc))
    (hw : ∀ x ∈ wsV M.2.2.2.2 ix qc.1 M'.1 [Cond.code M'.1 M'.2.1 M'.2.2.1 M'.2.2.2.1], x ∈ pm_tb)
    (hy : M'.1.cls = qc.1 ∧ M'.1.cls ≠ "java/lang/invoke/MethodHandle" ∧ M'.1.cls ≠ "java/lang/invoke/VarHandle" ∧ (parseMethodDescriptor M'.1.desc).map (fun d => d.parameters.length) = some As.length)
    (kr : pm_J l M I d mc ms n O cells slots (pc + 3, L, .int x :: rest, w))
    (hd : pm_find I.1 pc = some (.invokevirtual ix, 3) := by rfl) (hst : st = ((Value.ref k0 :: As).map (pm_v (pm_rn q))).reverse ++ rest := by rfl) (hf1 : va_nd q = true := by rfl) (hf2 : q.map (fun h => pm_nth w h) = wc.map (fun c => some (pm_rc (pm_rn q) c)) := by rfl) (hn : w.length = n := by rfl) (hr : wc[k0]? = some (.inr (ci, fs)) := by rfl) (hqc : vwCl[ci]? = some qc := by rfl)
    (hrest : Nat.ble (rest.map Value.category).sum 8 = true := by rfl) (hdd : Nat.ble (d' + 1) d = true := by rfl) (hml : Nat.ble M'.2.2.1 81 = true := by rfl) (hcs : Nat.ble cells mc = true := by rfl) (hss : Nat.ble slots ms = true := by rfl) : pm_J l M I d mc ms n O cells slots (pc, L, st, w) := by
  refine pm_J.clG q hM hw hy ?_ hd hst hf1 hf2 hn hr hqc hrest hdd hml hcs hss
  rw [pm_bk_same ⟨hf1, hf2⟩]
  exact kr
theorem pm_J.cLG {x : Int64} (q : List Nat) (hM : pm_Met l M' d' 0 0 (.ref k0 :: As) wc (isO (some (.long x)) wc))
    (hw : ∀ x ∈ wsV M.2.2.2.2 ix qc.1 M'.1 [Cond.code M'.1 M'.2.1 M'.2.2.1 M'.2.2.2.1], x ∈ pm_tb)
    (hy : M'.1.cls = qc.1 ∧ M'.1.cls ≠ "java/lang/invoke/MethodHandle" ∧ M'.1.cls ≠ "java/lang/invoke/VarHandle" ∧ (parseMethodDescriptor M'.1.desc).map (fun d => d.parameters.length) = some As.length)
    (kr : pm_J l M I d mc ms n O cells slots (pc + 3, L, .long x :: rest, w))
    (hd : pm_find I.1 pc = some (.invokevirtual ix, 3) := by rfl) (hst : st = ((Value.ref k0 :: As).map (pm_v (pm_rn q))).reverse ++ rest := by rfl) (hf1 : va_nd q = true := by rfl) (hf2 : q.map (fun h => pm_nth w h) = wc.map (fun c => some (pm_rc (pm_rn q) c)) := by rfl) (hn : w.length = n := by rfl) (hr : wc[k0]? = some (.inr (ci, fs)) := by rfl) (hqc : vwCl[ci]? = some qc := by rfl)
    (hrest : Nat.ble (rest.map Value.category).sum 8 = true := by rfl) (hdd : Nat.ble (d' + 1) d = true := by rfl) (hml : Nat.ble M'.2.2.1 81 = true := by rfl) (hcs : Nat.ble cells mc = true := by rfl) (hss : Nat.ble slots ms = true := by rfl) : pm_J l M I d mc ms n O cells slots (pc, L, st, w) := by
  refine pm_J.clG q hM hw hy ?_ hd hst hf1 hf2 hn hr hqc hrest hdd hml hcs hss
  rw [pm_bk_same ⟨hf1, hf2⟩]
  exact kr
theorem pm_J.cFG {x : UInt32} (q : List Nat) (hM : pm_Met l M' d' 0 0 (.ref k0 :: As) wc (isO (some (.float x)) wc))
    (hw : ∀ x ∈ wsV M.2.2.2.2 ix qc.1 M'.1 [Cond.code M'.1 M'.2.1 M'.2.2.1 M'.2.2.2.1], x ∈ pm_tb)
    (hy : M'.1.cls = qc.1 ∧ M'.1.cls ≠ "java/lang/invoke/MethodHandle" ∧ M'.1.cls ≠ "java/lang/invoke/VarHandle" ∧ (parseMethodDescriptor M'.1.desc).map (fun d => d.parameters.length) = some As.length)
    (kr : pm_J l M I d mc ms n O cells slots (pc + 3, L, .float x :: rest, w))
    (hd : pm_find I.1 pc = some (.invokevirtual ix, 3) := by rfl) (hst : st = ((Value.ref k0 :: As).map (pm_v (pm_rn q))).reverse ++ rest := by rfl) (hf1 : va_nd q = true := by rfl) (hf2 : q.map (fun h => pm_nth w h) = wc.map (fun c => some (pm_rc (pm_rn q) c)) := by rfl) (hn : w.length = n := by rfl) (hr : wc[k0]? = some (.inr (ci, fs)) := by rfl) (hqc : vwCl[ci]? = some qc := by rfl)
    (hrest : Nat.ble (rest.map Value.category).sum 8 = true := by rfl) (hdd : Nat.ble (d' + 1) d = true := by rfl) (hml : Nat.ble M'.2.2.1 81 = true := by rfl) (hcs : Nat.ble cells mc = true := by rfl) (hss : Nat.ble slots ms = true := by rfl) : pm_J l M I d mc ms n O cells slots (pc, L, st, w) := by
  refine pm_J.clG q hM hw hy ?_ hd hst hf1 hf2 hn hr hqc hrest hdd hml hcs hss
  rw [pm_bk_same ⟨hf1, hf2⟩]
  exact kr
/-- a call that leaves w2 -/
theorem pm_J.cvG (q : List Nat) (w2 : List pm_E) (hM : pm_Met l M' d' 0 0 (.ref k0 :: As) wc (isO none w1))
    (hw : ∀ x ∈ wsV M.2.2.2.2 ix qc.1 M'.1 [Cond.code M'.1 M'.2.1 M'.2.2.1 M'.2.2.2.1], x ∈ pm_tb)
    (hy : M'.1.cls = qc.1 ∧ M'.1.cls ≠ "java/lang/invoke/MethodHandle" ∧ M'.1.cls ≠ "java/lang/invoke/VarHandle" ∧ (parseMethodDescriptor M'.1.desc).map (fun d => d.parameters.length) = some As.length)
    (kr : pm_J l M I d mc ms n O cells slots (pc + 3, L, rest, w2))
    (hw2 : pm_bk (pm_rn q) w q w1 = w2 := by rfl)
    (hd : pm_find I.1 pc = some (.invokevirtual ix, 3) := by rfl) (hst : st = ((Value.ref k0 :: As).map (pm_v (pm_rn q))).reverse ++ rest := by rfl) (hf1 : va_nd q = true := by rfl) (hf2 : q.map (fun h => pm_nth w h) = wc.map (fun c => some (pm_rc (pm_rn q) c)) := by rfl) (hn : w.length = n := by rfl) (hr : wc[k0]? = some (.inr (ci, fs)) := by rfl) (hqc : vwCl[ci]? = some qc := by rfl)
    (hrest : Nat.ble (rest.map Value.category).sum 8 = true := by rfl) (hdd : Nat.ble (d' + 1) d = true := by rfl) (hml : Nat.ble M'.2.2.1 81 = true := by rfl) (hcs : Nat.ble cells mc = true := by rfl) (hss : Nat.ble slots ms = true := by rfl) : pm_J l M I d mc ms n O cells slots (pc, L, st, w) := by
  refine pm_J.clG q hM hw hy ?_ hd hst hf1 hf2 hn hr hqc hrest hdd hml hcs hss
  rw [hw2]
  exact kr
theorem pm_J.ciwG {x : Int32} (q : List Nat) (w2 : List pm_E) (hM : pm_Met l M' d' 0 0 (.ref k0 :: As) wc (isO (some (.int x)) w1))
    (hw : ∀ x ∈ wsV M.2.2.2.2 ix qc.1 M'.1 [Cond.code M'.1 M'.2.1 M'.2.2.1 M'.2.2.2.1], x ∈ pm_tb)
    (hy : M'.1.cls = qc.1 ∧ M'.1.cls ≠ "java/lang/invoke/MethodHandle" ∧ M'.1.cls ≠ "java/lang/invoke/VarHandle" ∧ (parseMethodDescriptor M'.1.desc).map (fun d => d.parameters.length) = some As.length)
    (kr : pm_J l M I d mc ms n O cells slots (pc + 3, L, .int x :: rest, w2))
    (hw2 : pm_bk (pm_rn q) w q w1 = w2 := by rfl)
    (hd : pm_find I.1 pc = some (.invokevirtual ix, 3) := by rfl) (hst : st = ((Value.ref k0 :: As).map (pm_v (pm_rn q))).reverse ++ rest := by rfl) (hf1 : va_nd q = true := by rfl) (hf2 : q.map (fun h => pm_nth w h) = wc.map (fun c => some (pm_rc (pm_rn q) c)) := by rfl) (hn : w.length = n := by rfl) (hr : wc[k0]? = some (.inr (ci, fs)) := by rfl) (hqc : vwCl[ci]? = some qc := by rfl)
    (hrest : Nat.ble (rest.map Value.category).sum 8 = true := by rfl) (hdd : Nat.ble (d' + 1) d = true := by rfl) (hml : Nat.ble M'.2.2.1 81 = true := by rfl) (hcs : Nat.ble cells mc = true := by rfl) (hss : Nat.ble slots ms = true := by rfl) : pm_J l M I d mc ms n O cells slots (pc, L, st, w) := by
  refine pm_J.clG q hM hw hy ?_ hd hst hf1 hf2 hn hr hqc hrest hdd hml hcs hss
  rw [hw2]
  exact kr
theorem pm_J.cLwG {x : Int64} (q : List Nat) (w2 : List pm_E) (hM : pm_Met l M' d' 0 0 (.ref k0 :: As) wc (isO (some (.long x)) w1))
    (hw : ∀ x ∈ wsV M.2.2.2.2 ix qc.1 M'.1 [Cond.code M'.1 M'.2.1 M'.2.2.1 M'.2.2.2.1], x ∈ pm_tb)
    (hy : M'.1.cls = qc.1 ∧ M'.1.cls ≠ "java/lang/invoke/MethodHandle" ∧ M'.1.cls ≠ "java/lang/invoke/VarHandle" ∧ (parseMethodDescriptor M'.1.desc).map (fun d => d.parameters.length) = some As.length)
    (kr : pm_J l M I d mc ms n O cells slots (pc + 3, L, .long x :: rest, w2))
    (hw2 : pm_bk (pm_rn q) w q w1 = w2 := by rfl)
    (hd : pm_find I.1 pc = some (.invokevirtual ix, 3) := by rfl) (hst : st = ((Value.ref k0 :: As).map (pm_v (pm_rn q))).reverse ++ rest := by rfl) (hf1 : va_nd q = true := by rfl) (hf2 : q.map (fun h => pm_nth w h) = wc.map (fun c => some (pm_rc (pm_rn q) c)) := by rfl) (hn : w.length = n := by rfl) (hr : wc[k0]? = some (.inr (ci, fs)) := by rfl) (hqc : vwCl[ci]? = some qc := by rfl)
    (hrest : Nat.ble (rest.map Value.category).sum 8 = true := by rfl) (hdd : Nat.ble (d' + 1) d = true := by rfl) (hml : Nat.ble M'.2.2.1 81 = true := by rfl) (hcs : Nat.ble cells mc = true := by rfl) (hss : Nat.ble slots ms = true := by rfl) : pm_J l M I d mc ms n O cells slots (pc, L, st, w) := by
  refine pm_J.clG q hM hw hy ?_ hd hst hf1 hf2 hn hr hqc hrest hdd hml hcs hss
  rw [hw2]
  exact kr
end
/-- a call whose end is told by a relation -/
theorem pm_J.cR {pc ix ci k0 d' mc' ms' : Nat} {L : List (Option Value)} {st rest As : List Value} {w wc : List pm_E} {M' : pm_M} {fs : List Value} {qc : vw_C} {O' : pm_O → List pm_E → Prop} (q : List Nat)
    (hM : pm_Met l M' d' mc' ms' (.ref k0 :: As) wc O')
    (hw : ∀ x ∈ wsV M.2.2.2.2 ix qc.1 M'.1 [Cond.code M'.1 M'.2.1 M'.2.2.1 M'.2.2.2.1], x ∈ pm_tb)
    (hy : M'.1.cls = qc.1 ∧ M'.1.cls ≠ "java/lang/invoke/MethodHandle" ∧ M'.1.cls ≠ "java/lang/invoke/VarHandle" ∧ (parseMethodDescriptor M'.1.desc).map (fun d => d.parameters.length) = some As.length)
    (kx : ∀ E w1, O' (.inr E) w1 → O (.inr E) (pm_bk (pm_rn q) w q w1))
    (kr : ∀ v w1, O' (.inl v) w1 → pm_J l M I d mc ms n O (cells + mc') (slots + ms') (pc + 3, L, (v.map (pm_v (pm_rn q))).toList ++ rest, pm_bk (pm_rn q) w q w1))
    (hd : pm_find I.1 pc = some (.invokevirtual ix, 3) := by rfl) (hst : st = ((Value.ref k0 :: As).map (pm_v (pm_rn q))).reverse ++ rest := by rfl) (hf1 : va_nd q = true := by rfl) (hf2 : q.map (fun h => pm_nth w h) = wc.map (fun c => some (pm_rc (pm_rn q) c)) := by rfl) (hn : w.length = n := by rfl) (hr : wc[k0]? = some (.inr (ci, fs)) := by rfl) (hqc : vwCl[ci]? = some qc := by rfl)
    (hrest : Nat.ble (rest.map Value.category).sum 8 = true := by rfl) (hdd : Nat.ble (d' + 1) d = true := by rfl) (hml : Nat.ble M'.2.2.1 81 = true := by rfl) (hcs : Nat.ble (cells + mc') mc = true := by rfl) (hss : Nat.ble (slots + ms') ms = true := by rfl) : pm_J l M I d mc ms n O cells slots (pc, L, st, w) :=
  pm_J.call q hM hd hw hy hst ⟨hf1, hf2⟩ hn hr hqc (Nat.le_of_ble_eq_true hrest) (Nat.le_of_ble_eq_true hdd) (Nat.le_of_ble_eq_true hml) (Nat.le_of_ble_eq_true hcs) (Nat.le_of_ble_eq_true hss) (fun E w1 h _ => kx E w1 h) (fun v' w1' h _ => kr v' w1' h)
end RU3
end
section
section THR
variable {l : Launch} {I : pm_I} {M : pm_M} {d mc ms n cells slots : Nat} {O : pm_O → List pm_E → Prop}
abbrev eI : String := "java/lang/IndexOutOfBoundsException"
abbrev eS : String := "java/lang/IllegalStateException"
abbrev eA : String := "java/lang/IllegalArgumentException"
abbrev eN : List String := ["java/lang/RuntimeException", "java/lang/Exception"]
theorem xn_ok : ∀ x ∈ eN, Bundle.fit x = true := by decide +kernel
theorem xI_1 : Bundle.fit eI = true ∧ Cond.classLink RX5 87 eI ∈ pm_tb ∧ Cond.initialized eI ∈ pm_tb := by decide +kernel
theorem xI_2 : ∀ x ∈ vx_atS RX5 91 eI eN, x ∈ pm_tb ∨ x ∈ pm_ng := by decide +kernel
theorem xI_3 : ∀ x ∈ Cond.classLink RX5 87 eI :: Cond.initialized eI :: vx_atS RX5 91 eI eN, vx_ot x = true := by decide +kernel
theorem xS_1 : Bundle.fit eS = true ∧ Cond.classLink RX5 54 eS ∈ pm_tb ∧ Cond.initialized eS ∈ pm_tb := by decide +kernel
theorem xS_2 : ∀ x ∈ vx_atS RX5 58 eS eN, x ∈ pm_tb ∨ x ∈ pm_ng := by decide +kernel
theorem xS_3 : ∀ x ∈ Cond.classLink RX5 54 eS :: Cond.initialized eS :: vx_atS RX5 58 eS eN, vx_ot x = true := by decide +kernel
theorem xA_1 : Bundle.fit eA = true ∧ Cond.classLink RX5 100 eA ∈ pm_tb ∧ Cond.initialized eA ∈ pm_tb := by decide +kernel
theorem xA_2 : ∀ x ∈ vx_atS RX5 104 eA eN, x ∈ pm_tb ∨ x ∈ pm_ng := by decide +kernel
theorem xA_3 : ∀ x ∈ Cond.classLink RX5 100 eA :: Cond.initialized eA :: vx_atS RX5 104 eA eN, vx_ot x = true := by decide +kernel
theorem pm_J.thI {pc is : Nat} {L : List (Option Value)} {rest : List Value} {w : List pm_E} (text : String) (hstr : (RX5, is, text) ∈ pm_strs) (hO : O (.inr eI) w)
    (d0 : pm_find I.1 pc = some (.new 87, 3) := by rfl) (d3 : pm_find I.1 (pc + 3) = some (.dup, 1) := by rfl) (d4 : pm_find I.1 (pc + 4) = some (.ldc is, 2) := by rfl) (d6 : pm_find I.1 (pc + 6) = some (.invokespecial 91, 3) := by rfl) (d9 : pm_find I.1 (pc + 9) = some (.athrow, 1) := by rfl)
    (hown : M.2.2.2.2 = RX5 := by rfl) (hrest : Nat.ble (rest.map Value.category).sum 8 = true := by rfl) (hdd : Nat.ble 6 d = true := by rfl) (hmc : Nat.ble (cells + 1) mc = true := by rfl) (hms : Nat.ble (slots + 6) ms = true := by rfl) (hn : w.length = n := by rfl) : pm_J l M I d mc ms n O cells slots (pc, L, rest, w) :=
  pm_J.throw (names := eN) d0 d3 d4 d6 d9 hown hstr xI_1.1 xn_ok xI_1.2.1 xI_1.2.2 xI_2 xI_3 (Nat.le_of_ble_eq_true hrest) (by decide) (Nat.le_of_ble_eq_true hdd) (Nat.le_of_ble_eq_true hmc) (Nat.le_of_ble_eq_true hms) hn hO
theorem pm_J.thS {pc is : Nat} {L : List (Option Value)} {rest : List Value} {w : List pm_E} (text : String) (hstr : (RX5, is, text) ∈ pm_strs) (hO : O (.inr eS) w)
    (d0 : pm_find I.1 pc = some (.new 54, 3) := by rfl) (d3 : pm_find I.1 (pc + 3) = some (.dup, 1) := by rfl) (d4 : pm_find I.1 (pc + 4) = some (.ldc is, 2) := by rfl) (d6 : pm_find I.1 (pc + 6) = some (.invokespecial 58, 3) := by rfl) (d9 : pm_find I.1 (pc + 9) = some (.athrow, 1) := by rfl)
    (hown : M.2.2.2.2 = RX5 := by rfl) (hrest : Nat.ble (rest.map Value.category).sum 8 = true := by rfl) (hdd : Nat.ble 6 d = true := by rfl) (hmc : Nat.ble (cells + 1) mc = true := by rfl) (hms : Nat.ble (slots + 6) ms = true := by rfl) (hn : w.length = n := by rfl) : pm_J l M I d mc ms n O cells slots (pc, L, rest, w) :=
  pm_J.throw (names := eN) d0 d3 d4 d6 d9 hown hstr xS_1.1 xn_ok xS_1.2.1 xS_1.2.2 xS_2 xS_3 (Nat.le_of_ble_eq_true hrest) (by decide) (Nat.le_of_ble_eq_true hdd) (Nat.le_of_ble_eq_true hmc) (Nat.le_of_ble_eq_true hms) hn hO
theorem pm_J.thA {pc is : Nat} {L : List (Option Value)} {rest : List Value} {w : List pm_E} (text : String) (hstr : (RX5, is, text) ∈ pm_strs) (hO : O (.inr eA) w)
    (d0 : pm_find I.1 pc = some (.new 100, 3) := by rfl) (d3 : pm_find I.1 (pc + 3) = some (.dup, 1) := by rfl) (d4 : pm_find I.1 (pc + 4) = some (.ldc is, 2) := by rfl) (d6 : pm_find I.1 (pc + 6) = some (.invokespecial 104, 3) := by rfl) (d9 : pm_find I.1 (pc + 9) = some (.athrow, 1) := by rfl)
    (hown : M.2.2.2.2 = RX5 := by rfl) (hrest : Nat.ble (rest.map Value.category).sum 8 = true := by rfl) (hdd : Nat.ble 6 d = true := by rfl) (hmc : Nat.ble (cells + 1) mc = true := by rfl) (hms : Nat.ble (slots + 6) ms = true := by rfl) (hn : w.length = n := by rfl) : pm_J l M I d mc ms n O cells slots (pc, L, rest, w) :=
  pm_J.throw (names := eN) d0 d3 d4 d6 d9 hown hstr xA_1.1 xn_ok xA_1.2.1 xA_1.2.2 xA_2 xA_3 (Nat.le_of_ble_eq_true hrest) (by decide) (Nat.le_of_ble_eq_true hdd) (Nat.le_of_ble_eq_true hmc) (Nat.le_of_ble_eq_true hms) hn hO
/-- a call of a method that leaves all as it was, and may throw -/
theorem pm_J.cP {pc ix ci k0 d' mc' ms' : Nat} {L : List (Option Value)} {st rest As : List Value} {w wc : List pm_E} {M' : pm_M} {fs : List Value} {qc : vw_C} {Po : pm_O → Prop} (q : List Nat)
    (hM : pm_Met l M' d' mc' ms' (.ref k0 :: As) wc (fun o w' => w' = wc ∧ Po o))
    (hw : ∀ x ∈ wsV M.2.2.2.2 ix qc.1 M'.1 [Cond.code M'.1 M'.2.1 M'.2.2.1 M'.2.2.2.1], x ∈ pm_tb)
    (hy : M'.1.cls = qc.1 ∧ M'.1.cls ≠ "java/lang/invoke/MethodHandle" ∧ M'.1.cls ≠ "java/lang/invoke/VarHandle" ∧ (parseMethodDescriptor M'.1.desc).map (fun d => d.parameters.length) = some As.length)
    (kx : ∀ E, Po (.inr E) → O (.inr E) w)
    (kr : ∀ v, Po (.inl v) → pm_J l M I d mc ms n O (cells + mc') (slots + ms') (pc + 3, L, (v.map (pm_v (pm_rn q))).toList ++ rest, w))
    (hd : pm_find I.1 pc = some (.invokevirtual ix, 3) := by rfl) (hst : st = ((Value.ref k0 :: As).map (pm_v (pm_rn q))).reverse ++ rest := by rfl) (hf1 : va_nd q = true := by rfl) (hf2 : q.map (fun h => pm_nth w h) = wc.map (fun c => some (pm_rc (pm_rn q) c)) := by rfl) (hn : w.length = n := by rfl) (hr : wc[k0]? = some (.inr (ci, fs)) := by rfl) (hqc : vwCl[ci]? = some qc := by rfl)
    (hrest : Nat.ble (rest.map Value.category).sum 8 = true := by rfl) (hdd : Nat.ble (d' + 1) d = true := by rfl) (hml : Nat.ble M'.2.2.1 81 = true := by rfl) (hcs : Nat.ble (cells + mc') mc = true := by rfl) (hss : Nat.ble (slots + ms') ms = true := by rfl) : pm_J l M I d mc ms n O cells slots (pc, L, st, w) := by
  refine pm_J.cR q hM hw hy (fun E w1 h => ?_) (fun v w1 h => ?_) hd hst hf1 hf2 hn hr hqc hrest hdd hml hcs hss
  · obtain ⟨rfl, h2⟩ := h
    rw [pm_bk_same ⟨hf1, hf2⟩]
    exact kx E h2
  · obtain ⟨rfl, h2⟩ := h
    rw [pm_bk_same ⟨hf1, hf2⟩]
    exact kr v h2
theorem st_56 : (RX5, 56, "the text is full") ∈ pm_strs := by decide +kernel
theorem st_89 : (RX5, 89, "no such kind or character") ∈ pm_strs := by decide +kernel
theorem st_102 : (RX5, 102, "a weight is 1 to 9") ∈ pm_strs := by decide +kernel
theorem st_131 : (RX5, 131, "fewer than three kinds") ∈ pm_strs := by decide +kernel
theorem st_140 : (RX5, 140, "no such tree was found") ∈ pm_strs := by decide +kernel
theorem st_182 : (RX5, 182, "above is 0.5 to 1") ∈ pm_strs := by decide +kernel
theorem st_188 : (RX5, 188, "no such tree") ∈ pm_strs := by decide +kernel
theorem st_190 : (RX5, 190, "no such character") ∈ pm_strs := by decide +kernel
theorem st_192 : (RX5, 192, "nothing is found") ∈ pm_strs := by decide +kernel
end THR
end
section
section SHT
variable {l : Launch}
abbrev txP : Type := (Nat → Nat) × Nat × Nat
abbrev trP : Type := (Nat → Nat) × trS × (Nat → Int64) × (Nat → Nat) × Nat
abbrev fnP : Type := (Nat → Nat) × (Nat → Nat) × Nat
abbrev pgP : Type := pgS × (Nat → Nat) × Nat
abbrev tbP : Type := (Nat → Int64) × (Nat → Nat) × Nat × Nat
abbrev txA (h : Nat) (p : txP) : List pm_E := [.inr (3, [.ref (h + 1), .int (nI p.2.1), .int (nI p.2.2)]), .inl (.char, 160, .inl (nA p.1))]
abbrev trA (h : Nat) (p : trP) : List pm_E := trAt' h p.1 p.2.1 p.2.2.1 p.2.2.2.1 p.2.2.2.2
abbrev fnA (h : Nat) (p : fnP) : List pm_E := [.inr (0, [.ref (h + 1), .ref (h + 2), .int (nI p.2.2)]), .inl (.int, 945, .inl (nA p.1)), .inl (.int, 128, .inl (nA p.2.1))]
abbrev pgA (h : Nat) (p : pgP) : List pm_E := [.inr (1, [.ref (h + 1), .ref (h + 2), .int (nI p.1.2), .int (nI p.2.2)]), .inl (.char, 24, .inl (nA p.1.1)), .inl (.int, 7, .inl (nA p.2.1))]
abbrev tbA (h : Nat) (p : tbP) : List pm_E := tbAt h p.1 p.2.1 p.2.2.1 p.2.2.2
/-- an object's cells; cu, sp: where the two tables stand -/
abbrev stW (cu sp : Nat) (tx : txP) (g1 g2 : trP) (fn : fnP) (pg : pgP) (t1 t2 : tbP) : List pm_E :=
  .inr (5, [.ref 1, .ref 3, .ref 10, .ref 17, .ref 20, .ref cu, .ref sp]) :: (txA 1 tx ++ (trA 3 g1 ++ (trA 10 g2 ++ (fnA 17 fn ++ (pgA 20 pg ++ (tbA 23 t1 ++ tbA 26 t2))))))
abbrev stN : txP → trP → trP → fnP → pgP → tbP → tbP → List pm_E := stW 23 26
def TI (p : trP) : Prop := TrI p.1 p.2.1 p.2.2.2.1
/-- is there such a tree, such a character -/
def okT (k : Nat) (x : Int32) : Prop := 0 ≤ x ∧ x < nI (tcount k)
def okC (c : Nat) (x : Int32) : Prop := 0 ≤ x ∧ x < nI c
theorem ok_nat {x : Int32} {m : Nat} (hm : m < 2 ^ 31) (h : 0 ≤ x ∧ x < nI m) : ∃ j, j < m ∧ x = nI j := by
  obtain ⟨j, hj, rfl⟩ := nI_of (Int32.not_lt.mpr h.1)
  exact ⟨j, (nI_ltI hj hm).mp h.2, rfl⟩
theorem tcount_le {k : Nat} (hk : k ≤ 7) : tcount k ≤ 945 := by
  have hk' : k = 0 ∨ k = 1 ∨ k = 2 ∨ k = 3 ∨ k = 4 ∨ k = 5 ∨ k = 6 ∨ k = 7 := by omega
  rcases hk' with rfl | rfl | rfl | rfl | rfl | rfl | rfl | rfl <;> decide
theorem tcount_3 {k x : Nat} (h : x < tcount k) : 3 ≤ k := by
  unfold tcount at h
  split at h
  · omega
  · omega
theorem c_requireTree (hs : l.stackTraces = false) (tx : txP) (g1 g2 : trP) (fn : fnP) (pg : pgP) (t1 t2 : tbP) (x : Int32) (hk : t1.2.2.1 ≤ 7) :
    pm_Met l mX5_requireTree 6 1 6 [.ref 0, .int x] (stN tx g1 g2 fn pg t1 t2) (fun o w' => w' = stN tx g1 g2 fn pg t1 t2 ∧ ((okT t1.2.2.1 x ∧ o = .inl none) ∨ (¬ okT t1.2.2.1 x ∧ o = .inr eI))) := by
  refine pm_Met.mk kX5_requireTree hs (pm_J.run [15] 40 (fun K hK => And.intro (fun q => hK _ ?_) (fun q => hK _ ?_)))
  · exact pm_J.thI "no such tree" st_188 ⟨rfl, Or.inr ⟨fun z => absurd q (Int32.not_lt.mpr z.1), rfl⟩⟩
  · refine pm_J.cI [23, 24, 25] (c_treeCount hs t1.1 t1.2.1 t1.2.2.1 t1.2.2.2 hk) gRX5_109 vX2_treeCount ?_
    refine pm_J.run [15] 40 (fun K hK => And.intro (fun q2 => hK _ ?_) (fun q2 => hK _ ?_))
    · exact pm_J.rv ⟨rfl, Or.inl ⟨⟨Int32.not_lt.mp q, q2⟩, rfl⟩⟩
    · exact pm_J.thI "no such tree" st_188 ⟨rfl, Or.inr ⟨fun z => q2 z.2, rfl⟩⟩
theorem c_requireCharacter (hs : l.stackTraces = false) (tx : txP) (g1 g2 : trP) (fn : fnP) (pg : pgP) (t1 t2 : tbP) (x : Int32) :
    pm_Met l mX5_requireCharacter 6 1 6 [.ref 0, .int x] (stN tx g1 g2 fn pg t1 t2) (fun o w' => w' = stN tx g1 g2 fn pg t1 t2 ∧ ((okC t1.2.2.2 x ∧ o = .inl none) ∨ (¬ okC t1.2.2.2 x ∧ o = .inr eI))) := by
  refine pm_Met.mk kX5_requireCharacter hs (pm_J.run [] 40 (fun K hK => hK _ ?_))
  refine pm_J.cI [23, 24, 25] (c_hasCharacter hs t1.1 t1.2.1 t1.2.2.1 t1.2.2.2 x) gRX5_83 vX2_hasCharacter ?_
  by_cases h : 0 ≤ x ∧ x < nI t1.2.2.2
  · rw [if_pos h]
    refine pm_J.run [] 40 (fun K hK => br_t (by decide) (hK _ ?_))
    exact pm_J.rv ⟨rfl, Or.inl ⟨h, rfl⟩⟩
  · rw [if_neg h]
    refine pm_J.run [] 40 (fun K hK => br_f (by decide) (hK _ ?_))
    exact pm_J.thI "no such character" st_190 ⟨rfl, Or.inr ⟨h, rfl⟩⟩
theorem c_requireFinds (hs : l.stackTraces = false) (tx : txP) (g1 g2 : trP) (fn : fnP) (pg : pgP) (t1 t2 : tbP) (hc : fn.2.2 < 2 ^ 31) :
    pm_Met l mX5_requireFinds 6 1 6 [.ref 0] (stN tx g1 g2 fn pg t1 t2) (fun o w' => w' = stN tx g1 g2 fn pg t1 t2 ∧ ((fn.2.2 ≠ 0 ∧ o = .inl none) ∨ (fn.2.2 = 0 ∧ o = .inr eS))) := by
  refine pm_Met.mk kX5_requireFinds hs (pm_J.run [] 40 (fun K hK => And.intro (fun q => hK _ ?_) (fun q => hK _ ?_)))
  · have q' : ¬ nI fn.2.2 = 0 := q
    rw [nI_z hc] at q'
    exact pm_J.rv ⟨rfl, Or.inl ⟨q', rfl⟩⟩
  · have q' : ¬ ¬ nI fn.2.2 = 0 := q
    rw [nI_z hc] at q'
    exact pm_J.thS "nothing is found" st_192 ⟨rfl, Or.inr ⟨Classical.not_not.mp q', rfl⟩⟩
theorem c_type (hs : l.stackTraces = false) (tx : txP) (g1 g2 : trP) (fn : fnP) (pg : pgP) (t1 t2 : tbP) (v : Nat) (hn : tx.2.1 ≤ 160) (hv : v < 65536) :
    pm_Met l mX5_type 6 1 6 [.ref 0, .int (nI v)] (stN tx g1 g2 fn pg t1 t2) (fun o w' => (tx.2.1 < 160 ∧ o = .inl (some (.int (nI (tx.2.1 + 1)))) ∧ w' = stN (upN tx.1 tx.2.1 v, tx.2.1 + 1, tx.2.2) g1 g2 fn pg t1 t2) ∨ (tx.2.1 = 160 ∧ o = .inr eS ∧ w' = stN tx g1 g2 fn pg t1 t2)) := by
  refine pm_Met.mk kX5_type hs (pm_J.run [] 40 (fun K hK => hK _ ?_))
  refine pm_J.cI [1, 2] (c_isFull hs (nA tx.1) tx.2.1 (nI tx.2.2) hn) gRX5_50 vX3_isFull ?_
  by_cases h : 160 ≤ tx.2.1
  · rw [decide_eq_true h]
    refine pm_J.run [] 40 (fun K hK => br_f (by decide) (hK _ ?_))
    exact pm_J.thS "the text is full" st_56 (Or.inr ⟨by omega, rfl, rfl⟩)
  · rw [decide_eq_false h]
    refine pm_J.run [] 40 (fun K hK => br_t (by decide) (hK _ ?_))
    refine pm_J.ciw [1, 2] (stN (upN tx.1 tx.2.1 v, tx.2.1 + 1, tx.2.2) g1 g2 fn pg t1 t2) (c_add hs tx.1 tx.2.1 v (nI tx.2.2) (by omega) hv) gRX5_61 vX3_add ?_
    exact pm_J.ri (Or.inl ⟨by omega, rfl, rfl⟩)
/-- what table() makes of a text -/
abbrev rdT (tx : txP) (t2 : tbP) : Bool × Nat × (Nat → Int64) × Nat × Nat := rdF tx.1 tx.2.1 7 0 0 (fun j => if j < 7 then 0 else t2.1 j) 0 0
abbrev nwT (tx : txP) (t2 : tbP) : tbP := ((rdT tx t2).2.2.1, (fun j => if j < 16 then 1 else t2.2.1 j), (rdT tx t2).2.2.2.1, (rdT tx t2).2.2.2.2)
set_option maxHeartbeats 1000000 in
theorem c_table (hs : l.stackTraces = false) (tx : txP) (g1 g2 : trP) (fn : fnP) (pg : pgP) (t1 t2 : tbP) (hn : tx.2.1 ≤ 160) (ht : Ch tx.1) :
    pm_Met l mX5_table 7 0 0 [.ref 0] (stN tx g1 g2 fn pg t1 t2) (fun o w' => ((rdT tx t2).1 = false ∧ o = .inl (some (.int (pm_k (-100) - nI (rdT tx t2).2.1))) ∧ w' = stN (tx.1, 0, (rdT tx t2).2.1) g1 g2 fn pg t1 (nwT tx t2)) ∨
      ((rdT tx t2).1 = true ∧ o = .inl (some (.int (nI (rdT tx t2).2.2.2.1))) ∧ w' = stW 26 23 (tx.1, 0, (rdT tx t2).2.1) g1 g2 (fn.1, fn.2.1, 0) pg t1 (nwT tx t2))) := by
  refine pm_Met.mk kX5_table hs (pm_J.run [] 40 (fun K hK => hK _ ?_))
  refine pm_J.ciw [1, 2, 26, 27, 28] (stN (tx.1, tx.2.1, (rdT tx t2).2.1) g1 g2 fn pg t1 (nwT tx t2)) (c_read hs tx.1 tx.2.1 (nI tx.2.2) t2.1 t2.2.1 t2.2.2.1 t2.2.2.2 hn ht) gRX5_65 vX3_readInto ?_
  refine pm_J.run [] 40 (fun K hK => hK _ ?_)
  refine pm_J.cI [1, 2] (c_place hs (nA tx.1) (nI tx.2.1) (nI (rdT tx t2).2.1)) gRX5_69 vX3_place ?_
  refine pm_J.run [] 40 (fun K hK => hK _ ?_)
  refine pm_J.cv [1, 2] (stN (tx.1, 0, (rdT tx t2).2.1) g1 g2 fn pg t1 (nwT tx t2)) (c_empty hs (nA tx.1) (nI tx.2.1) (nI (rdT tx t2).2.1)) gRX5_73 vX3_empty ?_
  cases hm : (rdT tx t2).1 with
  | false =>
    refine pm_J.run [] 40 (fun K hK => br_f (fun z => z (by decide)) (hK _ ?_))
    exact pm_J.ri (Or.inl ⟨rfl, rfl, rfl⟩)
  | true =>
    refine pm_J.run [] 40 (fun K hK => br_t (by decide) (hK _ ?_))
    refine pm_J.cv [17, 18, 19] (stW 26 23 (tx.1, 0, (rdT tx t2).2.1) g1 g2 (fn.1, fn.2.1, 0) pg t1 (nwT tx t2)) (c_forget hs (nA fn.1) (nA fn.2.1) (nI fn.2.2)) gRX5_76 vX0_forget ?_
    refine pm_J.run [] 40 (fun K hK => hK _ ?_)
    exact pm_J.ri (Or.inr ⟨rfl, rfl, rfl⟩)
theorem c_states (hs : l.stackTraces = false) (tx : txP) (g1 g2 : trP) (fn : fnP) (pg : pgP) (t1 t2 : tbP) (x y : Int32) (hk : t1.2.2.1 ≤ 7) (hc : t1.2.2.2 ≤ 16) :
    pm_Met l mX5_states 6 1 6 [.ref 0, .int x, .int y] (stN tx g1 g2 fn pg t1 t2) (fun o w' => w' = stN tx g1 g2 fn pg t1 t2 ∧ (((okC t1.2.2.1 x ∧ okC t1.2.2.2 y) ∧ o = .inl (some (.int (nI (lane (t1.1 x.toNatClampNeg) y.toNatClampNeg))))) ∨ (¬ (okC t1.2.2.1 x ∧ okC t1.2.2.2 y) ∧ o = .inr eI))) := by
  refine pm_Met.mk kX5_states hs (pm_J.run [26] 40 (fun K hK => And.intro (fun q => hK _ ?_) (fun q => And.intro (fun q2 => hK _ ?_) (fun q2 => hK _ ?_))))
  · exact pm_J.thI "no such kind or character" st_89 ⟨rfl, Or.inr ⟨fun z => absurd q (Int32.not_lt.mpr z.1.1), rfl⟩⟩
  · exact pm_J.thI "no such kind or character" st_89 ⟨rfl, Or.inr ⟨fun z => absurd z.1.2 (Int32.not_lt.mpr q2), rfl⟩⟩
  · refine pm_J.cI [23, 24, 25] (c_hasCharacter hs t1.1 t1.2.1 t1.2.2.1 t1.2.2.2 y) gRX5_83 vX2_hasCharacter ?_
    by_cases h : 0 ≤ y ∧ y < nI t1.2.2.2
    · rw [if_pos h]
      have hx : okC t1.2.2.1 x := ⟨Int32.not_lt.mp q, Int32.not_le.mp q2⟩
      obtain ⟨a, ha, rfl⟩ := ok_nat (by omega) hx
      obtain ⟨b, hb, rfl⟩ := ok_nat (by omega) h
      refine pm_J.run [26] 40 (fun K hK => br_t (by decide) (hK _ ?_))
      refine pm_J.cI [23, 24, 25] (c_setOf hs t1.1 t1.2.1 t1.2.2.1 t1.2.2.2 a b (by omega) (by omega)) gRX5_92 vX2_setOf ?_
      refine pm_J.ri ⟨rfl, Or.inl ⟨⟨hx, h⟩, ?_⟩⟩
      rw [nI_clamp (by omega), nI_clamp (by omega)]
    · rw [if_neg h]
      refine pm_J.run [26] 40 (fun K hK => br_f (by decide) (hK _ ?_))
      exact pm_J.thI "no such kind or character" st_89 ⟨rfl, Or.inr ⟨fun z => h z.2, rfl⟩⟩
theorem c_trees (hs : l.stackTraces = false) (tx : txP) (g1 g2 : trP) (fn : fnP) (pg : pgP) (t1 t2 : tbP) (hk : t1.2.2.1 ≤ 7) : pm_Met l mX5_trees 2 0 0 [.ref 0] (stN tx g1 g2 fn pg t1 t2) (isI (nI (tcount t1.2.2.1)) (stN tx g1 g2 fn pg t1 t2)) := by
  refine pm_Met.mk kX5_trees hs (pm_J.run [] 40 (fun K hK => hK _ ?_))
  refine pm_J.cI [23, 24, 25] (c_treeCount hs t1.1 t1.2.1 t1.2.2.1 t1.2.2.2 hk) gRX5_109 vX2_treeCount ?_
  exact pm_J.ri ⟨rfl, rfl⟩
theorem c_found (hs : l.stackTraces = false) (tx : txP) (g1 g2 : trP) (fn : fnP) (pg : pgP) (t1 t2 : tbP) : pm_Met l mX5_found 1 0 0 [.ref 0] (stN tx g1 g2 fn pg t1 t2) (isI (nI fn.2.2) (stN tx g1 g2 fn pg t1 t2)) := by
  refine pm_Met.mk kX5_found hs (pm_J.run [] 40 (fun K hK => hK _ ?_))
  exact pm_J.ri ⟨rfl, rfl⟩
theorem c_best (hs : l.stackTraces = false) (tx : txP) (g1 g2 : trP) (fn : fnP) (pg : pgP) (t1 t2 : tbP) (x : Int32) (hc : fn.2.2 ≤ 945) :
    pm_Met l mX5_best 6 1 6 [.ref 0, .int x] (stN tx g1 g2 fn pg t1 t2) (fun o w' => w' = stN tx g1 g2 fn pg t1 t2 ∧ ((okC fn.2.2 x ∧ o = .inl (some (.int (nI (fn.1 x.toNatClampNeg))))) ∨ (¬ okC fn.2.2 x ∧ o = .inr eI))) := by
  refine pm_Met.mk kX5_best hs (pm_J.run [15] 40 (fun K hK => And.intro (fun q => hK _ ?_) (fun q => And.intro (fun q2 => ?_) (fun q2 => hK _ ?_))))
  · exact pm_J.thI "no such tree was found" st_140 ⟨rfl, Or.inr ⟨fun z => absurd q (Int32.not_lt.mpr z.1), rfl⟩⟩
  · have hx : okC fn.2.2 x := ⟨Int32.not_lt.mp q, q2⟩
    obtain ⟨a, ha, rfl⟩ := ok_nat (by omega) hx
    refine And.intro (vp_in_nI (by omega) (by decide)) (hK _ ?_)
    exact pm_J.ri ⟨rfl, Or.inl ⟨hx, rfl⟩⟩
  · exact pm_J.thI "no such tree was found" st_140 ⟨rfl, Or.inr ⟨fun z => q2 z.2, rfl⟩⟩
theorem c_written (hs : l.stackTraces = false) (tx : txP) (g1 g2 : trP) (fn : fnP) (pg : pgP) (t1 t2 : tbP) (x : Int32) (h : pg.1.2 ≤ 24) (hb : ∀ j, pg.1.1 j < 65536) : pm_Met l mX5_written 2 0 0 [.ref 0, .int x] (stN tx g1 g2 fn pg t1 t2) (isI (nI (sgF pg.1 x)) (stN tx g1 g2 fn pg t1 t2)) := by
  refine pm_Met.mk kX5_written hs (pm_J.run [] 40 (fun K hK => hK _ ?_))
  refine pm_J.cI [20, 21, 22] (c_signAt hs pg.1 (nA pg.2.1) (nI pg.2.2) x h hb) gRX5_184 vX1_signAt ?_
  refine pm_J.ri ⟨rfl, rfl⟩ (hn := ?_)
  unfold sgF
  split
  · exact (pk_charN (hb _)).1
  · rfl
theorem c_weigh (hs : l.stackTraces = false) (tx : txP) (g1 g2 : trP) (fn : fnP) (pg : pgP) (t1 t2 : tbP) (x y : Int32) (hc : t1.2.2.2 ≤ 16) :
    pm_Met l mX5_weigh 7 2 12 [.ref 0, .int x, .int y] (stN tx g1 g2 fn pg t1 t2) (fun o w' => (¬ okC t1.2.2.2 x ∧ o = .inr eI ∧ w' = stN tx g1 g2 fn pg t1 t2) ∨ (okC t1.2.2.2 x ∧ ¬ (nI 1 ≤ y ∧ y ≤ nI 9) ∧ o = .inr eA ∧ w' = stN tx g1 g2 fn pg t1 t2) ∨
      (okC t1.2.2.2 x ∧ (nI 1 ≤ y ∧ y ≤ nI 9) ∧ o = .inl (some (.int (nI (t1.2.1 x.toNatClampNeg)))) ∧ w' = stN tx g1 g2 (fn.1, fn.2.1, 0) pg (t1.1, upN t1.2.1 x.toNatClampNeg y.toNatClampNeg, t1.2.2.1, t1.2.2.2) t2)) := by
  refine pm_Met.mk kX5_weigh hs (pm_J.run [] 40 (fun K hK => hK _ ?_))
  refine pm_J.cP (List.range 29) (c_requireCharacter hs tx g1 g2 fn pg t1 t2 x) gRX5_96 vX5_requireCharacter (fun E h => ?_) (fun v h => ?_)
  · rcases h with ⟨h1, h2⟩ | ⟨h1, h2⟩
    · cases h2
    · cases h2
      exact Or.inl ⟨h1, rfl, rfl⟩
  · rcases h with ⟨h1, h2⟩ | ⟨h1, h2⟩
    · cases h2
      obtain ⟨a, ha, rfl⟩ := ok_nat (by omega) h1
      have ea : (nI a).toNatClampNeg = a := nI_clamp (by omega)
      have bad : ¬ (nI 1 ≤ y ∧ y ≤ nI 9) → pm_J l mX5_weigh iX5_weigh 7 2 12 29 _ (0 + 1) (0 + 6) (16, [some (.ref 0), some (.int (nI a)), some (.int y), none], [], stN tx g1 g2 fn pg t1 t2) := fun hy => pm_J.thA (O := fun o w' => (¬ okC t1.2.2.2 (nI a) ∧ o = .inr eI ∧ w' = stN tx g1 g2 fn pg t1 t2) ∨ (okC t1.2.2.2 (nI a) ∧ ¬ (nI 1 ≤ y ∧ y ≤ nI 9) ∧ o = .inr eA ∧ w' = stN tx g1 g2 fn pg t1 t2) ∨
        (okC t1.2.2.2 (nI a) ∧ (nI 1 ≤ y ∧ y ≤ nI 9) ∧ o = .inl (some (.int (nI (t1.2.1 (nI a).toNatClampNeg)))) ∧ w' = stN tx g1 g2 (fn.1, fn.2.1, 0) pg (t1.1, upN t1.2.1 (nI a).toNatClampNeg y.toNatClampNeg, t1.2.2.1, t1.2.2.2) t2)) "a weight is 1 to 9" st_102 (Or.inr (Or.inl ⟨h1, hy, rfl, rfl⟩))
      refine pm_J.run [16] 40 (fun K hK => And.intro (fun q => hK _ ?_) (fun q => And.intro (fun q2 => ?_) (fun q2 => hK _ ?_)))
      · exact bad (fun z => absurd q (Int32.not_lt.mpr z.1))
      · have hy : nI 1 ≤ y ∧ y ≤ nI 9 := ⟨Int32.not_lt.mp q, q2⟩
        obtain ⟨b, hb, rfl⟩ : ∃ b, b ≤ 9 ∧ y = nI b := by
          obtain ⟨b, hb, rfl⟩ := nI_of (x := y) (Int32.not_lt.mpr (Int32.le_trans (by decide) hy.1))
          exact ⟨b, (nI_leI hb (by decide)).mp hy.2, rfl⟩
        refine And.intro (vp_in_nI (by omega) (by decide)) (And.intro (vp_in_nI (by omega) (by decide)) (hK _ ?_))
        rw [ea]
        have eb : (nI b).toNatClampNeg = b := nI_clamp (by omega)
        rw [eb]
        refine pm_J.cvG [17, 18, 19] (stN tx g1 g2 (fn.1, fn.2.1, 0) pg (t1.1, upN t1.2.1 a b, t1.2.2.1, t1.2.2.2) t2) (c_forget hs (nA fn.1) (nA fn.2.1) (nI fn.2.2)) gRX5_76 vX0_forget ?_ (hw2 := ?_)
        · refine pm_J.run [] 40 (fun K hK => hK _ ?_)
          exact pm_J.riG (Or.inr (Or.inr ⟨h1, hy, rfl, rfl⟩))
        · unfold stN stW tbA tbAt
          dsimp only
          rw [← nA_upd]
          rfl
      · exact bad (fun z => q2 z.2)
    · cases h2
end SHT
end
section
section SH2
variable {l : Launch}
/-- the tree of a number in the place of an older one -/
abbrev gN (k j : Nat) (g : trP) (se : Nat → Int64) : trP := (choF k j g.1, (grR k j g.1 g.2.1 g.2.2.2.1).1, se, (grR k j g.1 g.2.1 g.2.2.2.1).2, k - 2)
theorem gN_I {k j : Nat} {g : trP} {se : Nat → Int64} (hk : k ≤ 7) (h : TI g) : TI (gN k j g se) := grR_I hk h
theorem gN_grow {k j : Nat} {g : trP} (hs : l.stackTraces = false) (hT : TI g) (hj : j < tcount k) (hk : k ≤ 7) : pm_Met l mX4_grow 3 0 0 [.ref 0, .int (nI j), .int (nI k)] (trW' g.1 g.2.1 g.2.2.1 g.2.2.2.1 g.2.2.2.2) (isO none (trW' (gN k j g g.2.2.1).1 (gN k j g g.2.2.1).2.1 g.2.2.1 (gN k j g g.2.2.1).2.2.2.1 (k - 2))) := by
  obtain ⟨u1, u2, u3, u4, u5, u6⟩ := id hT
  have := tcount_le hk
  exact c_grow hs g.1 g.2.1 g.2.2.1 g.2.2.2.1 g.2.2.2.2 j k u1 u2 ⟨u3.Bd, u4.Bd, u5⟩ (by omega) (tcount_3 hj) hk
/-- all as before, but for the first tree's rows -/
abbrev onG (tx : txP) (g2 : trP) (fn : fnP) (pg : pgP) (t1 t2 : tbP) (w' : List pm_E) : Prop := ∃ g1', TI g1' ∧ w' = stN tx g1' g2 fn pg t1 t2
theorem c_length (hs : l.stackTraces = false) (tx : txP) (g1 g2 : trP) (fn : fnP) (pg : pgP) (t1 t2 : tbP) (x : Int32) (hk : t1.2.2.1 ≤ 7) (hc : t1.2.2.2 ≤ 16) (hT : TI g1) :
    pm_Met l mX5_length 7 1 6 [.ref 0, .int x] (stN tx g1 g2 fn pg t1 t2) (fun o w' => (¬ okT t1.2.2.1 x ∧ o = .inr eI ∧ w' = stN tx g1 g2 fn pg t1 t2) ∨ (okT t1.2.2.1 x ∧ o = .inl (some (.int (nI (lenT t1.1 t1.2.1 t1.2.2.1 t1.2.2.2 x.toNatClampNeg)))) ∧ onG tx g2 fn pg t1 t2 w')) := by
  have ht := tcount_le hk
  refine pm_Met.mk kX5_length hs (pm_J.run [] 40 (fun K hK => hK _ ?_))
  refine pm_J.cP (List.range 29) (c_requireTree hs tx g1 g2 fn pg t1 t2 x hk) gRX5_112 vX5_requireTree (fun E h => ?_) (fun v h => ?_)
  · rcases h with ⟨h1, h2⟩ | ⟨h1, h2⟩
    · cases h2
    · cases h2; exact Or.inl ⟨h1, rfl, rfl⟩
  · rcases h with ⟨h1, h2⟩ | ⟨h1, h2⟩
    · cases h2
      obtain ⟨j, hj, rfl⟩ := ok_nat (by omega) h1
      have hk3 := tcount_3 hj
      have hM := c_measure hs g1.1 g1.2.1 g1.2.2.1 g1.2.2.2.1 g1.2.2.2.2 j t1.1 t1.2.1 t1.2.2.1 t1.2.2.2 hT (by omega) hk3 hk hc
      rw [pk_canon t1.1 g1.2.2.1 hT.2.1 hk3 hk hj] at hM
      refine pm_J.run [] 40 (fun K hK => hK _ ?_)
      refine pm_J.ciwG [3, 4, 5, 6, 7, 8, 9, 23, 24, 25] (stN tx (gN t1.2.2.1 j g1 (pkS (grR t1.2.2.1 j g1.1 g1.2.1 g1.2.2.2.1).1.1 (grR t1.2.2.1 j g1.1 g1.2.1 g1.2.2.2.1).1.2.1 (grR t1.2.2.1 j g1.1 g1.2.1 g1.2.2.2.1).2 (seF t1.1 g1.2.2.1 t1.2.2.1) (t1.2.2.1 - 2)).2.2) g2 fn pg t1 t2) hM gRX5_127 vX4_growAndMeasure ?_
      refine pm_J.riG (Or.inr ⟨h1, ?_, _, gN_I hk hT, rfl⟩)
      rw [nI_clamp (by omega)]
      rfl
    · cases h2
theorem c_changes (hs : l.stackTraces = false) (tx : txP) (g1 g2 : trP) (fn : fnP) (pg : pgP) (t1 t2 : tbP) (x y : Int32) (hk : t1.2.2.1 ≤ 7) (hc : t1.2.2.2 ≤ 16) (hT : TI g1) :
    pm_Met l mX5_changes 7 2 12 [.ref 0, .int x, .int y] (stN tx g1 g2 fn pg t1 t2) (fun o w' => (¬ (okT t1.2.2.1 x ∧ okC t1.2.2.2 y) ∧ o = .inr eI ∧ w' = stN tx g1 g2 fn pg t1 t2) ∨ ((okT t1.2.2.1 x ∧ okC t1.2.2.2 y) ∧ o = .inl (some (.int (nI (lane (lenP t1.1 t1.2.2.1 x.toNatClampNeg) y.toNatClampNeg)))) ∧ onG tx g2 fn pg t1 t2 w')) := by
  have ht := tcount_le hk
  refine pm_Met.mk kX5_changes hs (pm_J.run [] 40 (fun K hK => hK _ ?_))
  refine pm_J.cP (List.range 29) (c_requireTree hs tx g1 g2 fn pg t1 t2 x hk) gRX5_112 vX5_requireTree (fun E h => ?_) (fun v h => ?_)
  · rcases h with ⟨h1, h2⟩ | ⟨h1, h2⟩
    · cases h2
    · cases h2; exact Or.inl ⟨fun z => h1 z.1, rfl, rfl⟩
  · rcases h with ⟨h1, h2⟩ | ⟨h1, h2⟩
    · cases h2
      refine pm_J.run [] 40 (fun K hK => hK _ ?_)
      refine pm_J.cP (List.range 29) (c_requireCharacter hs tx g1 g2 fn pg t1 t2 y) gRX5_96 vX5_requireCharacter (fun E h => ?_) (fun v h => ?_)
      · rcases h with ⟨h3, h2⟩ | ⟨h3, h2⟩
        · cases h2
        · cases h2; exact Or.inl ⟨fun z => h3 z.2, rfl, rfl⟩
      · rcases h with ⟨h3, h2⟩ | ⟨h3, h2⟩
        · cases h2
          obtain ⟨j, hj, rfl⟩ := ok_nat (by omega) h1
          obtain ⟨b, hb, rfl⟩ := ok_nat (by omega) h3
          have hk3 := tcount_3 hj
          have hT2 := gN_I (k := t1.2.2.1) (j := j) (se := g1.2.2.1) hk hT
          refine pm_J.run [] 40 (fun K hK => hK _ ?_)
          refine pm_J.cvG [3, 4, 5, 6, 7, 8, 9] (stN tx (gN t1.2.2.1 j g1 g1.2.2.1) g2 fn pg t1 t2) (gN_grow hs hT hj hk) gRX5_115 vX4_grow ?_
          have hM := c_packed hs (nA (gN t1.2.2.1 j g1 g1.2.2.1).1) (nA (gN t1.2.2.1 j g1 g1.2.2.1).2.1.2.2) (grR t1.2.2.1 j g1.1 g1.2.1 g1.2.2.2.1).1.1 (grR t1.2.2.1 j g1.1 g1.2.1 g1.2.2.2.1).1.2.1 (grR t1.2.2.1 j g1.1 g1.2.1 g1.2.2.2.1).2 g1.2.2.1 (t1.2.2.1 - 2) t1.1 t1.2.1 t1.2.2.1 t1.2.2.2 hk (by omega) hT2.2.2.1 hT2.2.2.2.1 hT2.2.2.2.2.2
          rw [pk_canon t1.1 g1.2.2.1 hT.2.1 hk3 hk hj] at hM
          refine pm_J.run [] 40 (fun K hK => hK _ ?_)
          refine pm_J.cLwG [3, 4, 5, 6, 7, 8, 9, 23, 24, 25] (stN tx (gN t1.2.2.1 j g1 (pkS (grR t1.2.2.1 j g1.1 g1.2.1 g1.2.2.2.1).1.1 (grR t1.2.2.1 j g1.1 g1.2.1 g1.2.2.2.1).1.2.1 (grR t1.2.2.1 j g1.1 g1.2.1 g1.2.2.2.1).2 (seF t1.1 g1.2.2.1 t1.2.2.1) (t1.2.2.1 - 2)).2.2) g2 fn pg t1 t2) hM gRX5_119 vX4_packedChanges ?_
          refine pm_J.run [] 40 (fun K hK => hK _ ?_)
          refine pm_J.cIG [23, 24, 25] (c_bitsOf hs (tbW t1.1 t1.2.1 t1.2.2.1 t1.2.2.2) (lenP t1.1 t1.2.2.1 j) b (by omega)) gRX5_123 vX2_bitsOf ?_
          refine pm_J.riG (Or.inr ⟨⟨h1, h3⟩, ?_, _, gN_I hk hT, rfl⟩)
          rw [nI_clamp (by omega), nI_clamp (by omega)]
        · cases h2
    · cases h2
theorem c_search (hs : l.stackTraces = false) (tx : txP) (g1 g2 : trP) (fn : fnP) (pg : pgP) (t1 t2 : tbP) (hk : t1.2.2.1 ≤ 7) (hc : t1.2.2.2 ≤ 16) (hw : Bd t1.2.1) (hT : TI g1) :
    pm_Met l mX5_search 7 1 6 [.ref 0] (stN tx g1 g2 fn pg t1 t2) (fun o w' => (t1.2.2.1 < 3 ∧ o = .inr eS ∧ w' = stN tx g1 g2 fn pg t1 t2) ∨ (3 ≤ t1.2.2.1 ∧ o = .inl (some (.int (nI (gaS (lenT t1.1 t1.2.1 t1.2.2.1 t1.2.2.2) fn.1 (tcount t1.2.2.1)).1))) ∧
      onG tx g2 ((gaS (lenT t1.1 t1.2.1 t1.2.2.1 t1.2.2.2) fn.1 (tcount t1.2.2.1)).2.2, taS t1.2.2.1 (gaS (lenT t1.1 t1.2.1 t1.2.2.1 t1.2.2.2) fn.1 (tcount t1.2.2.1)).2.2 (fun j => if j < 128 then 0 else fn.2.1 j) (gaS (lenT t1.1 t1.2.1 t1.2.2.1 t1.2.2.2) fn.1 (tcount t1.2.2.1)).2.1, (gaS (lenT t1.1 t1.2.1 t1.2.2.1 t1.2.2.2) fn.1 (tcount t1.2.2.1)).2.1) pg t1 t2 w')) := by
  have ht := tcount_le hk
  refine pm_Met.mk kX5_search hs (pm_J.run [] 40 (fun K hK => hK _ ?_))
  refine pm_J.cI [23, 24, 25] (c_treeCount hs t1.1 t1.2.1 t1.2.2.1 t1.2.2.2 hk) gRX5_109 vX2_treeCount ?_
  refine pm_J.run [] 40 (fun K hK => And.intro (fun q => hK _ ?_) (fun q => hK _ ?_))
  · have q' : ¬ nI (tcount t1.2.2.1) = 0 := q
    rw [nI_z (by omega)] at q'
    have hk3 : 3 ≤ t1.2.2.1 := tcount_3 (x := 0) (by omega)
    refine pm_J.cR [17, 18, 19, 23, 24, 25, 3, 4, 5, 6, 7, 8, 9] (c_gather hs fn.1 fn.2.1 (nI fn.2.2) t1.1 t1.2.1 t1.2.2.1 t1.2.2.2 g1.1 g1.2.1 g1.2.2.1 g1.2.2.2.1 g1.2.2.2.2 hT hk3 hk hc hw) gRX5_133 vX0_gather (fun E w1 h => by cases h.1) (fun v w1 h => ?_)
    obtain ⟨h1, ch2, s2, se2, od2, inn2, hT2, rfl⟩ := h
    cases h1
    exact pm_J.ri (Or.inr ⟨hk3, rfl, (ch2, s2, se2, od2, inn2), hT2, rfl⟩)
  · have q' : ¬ ¬ nI (tcount t1.2.2.1) = 0 := q
    rw [nI_z (by omega)] at q'
    refine pm_J.thS "fewer than three kinds" st_131 (Or.inl ⟨?_, rfl, rfl⟩)
    rcases Nat.lt_or_ge t1.2.2.1 3 with h | h
    · exact h
    · have h0 := Classical.not_not.mp q'
      have hk' : t1.2.2.1 = 3 ∨ t1.2.2.1 = 4 ∨ t1.2.2.1 = 5 ∨ t1.2.2.1 = 6 ∨ t1.2.2.1 = 7 := by omega
      rcases hk' with e | e | e | e | e <;> rw [e] at h0 <;> exact absurd h0 (by decide)
theorem hasS_c {be od sp : Nat → Nat} {x : Int32} : ∀ n, (∀ i, i < n → be (od i) = sp i) → hasS be od x n = hasS sp id x n
  | 0, _ => rfl
  | n + 1, h => by
    unfold hasS
    rw [hasS_c n (fun i hi => h i (by omega)), h n (by omega)]
    rfl
theorem notIn_c {be od sp be2 od2 sp2 : Nat → Nat} {m : Nat} (h2 : ∀ i, i < m → be2 (od2 i) = sp2 i) : ∀ n, (∀ i, i < n → be (od i) = sp i) → notIn be od be2 od2 m n = notIn sp id sp2 id m n
  | 0, _ => rfl
  | n + 1, h => by
    unfold notIn
    rw [notIn_c h2 n (fun i hi => h i (by omega)), h n (by omega), hasS_c m h2]
    rfl
theorem c_split (hs : l.stackTraces = false) (tx : txP) (g1 g2 : trP) (fn : fnP) (pg : pgP) (t1 t2 : tbP) (x y : Int32) (hk : t1.2.2.1 ≤ 7) (hT : TI g1) :
    pm_Met l mX5_split 7 1 6 [.ref 0, .int x, .int y] (stN tx g1 g2 fn pg t1 t2) (fun o w' => (¬ okT t1.2.2.1 x ∧ o = .inr eI ∧ w' = stN tx g1 g2 fn pg t1 t2) ∨ (okT t1.2.2.1 x ∧ o = .inl (some (.int (nI (b2n (hasS (spz t1.2.2.1 x.toNatClampNeg) id y (t1.2.2.1 - 3)))))) ∧ onG tx g2 fn pg t1 t2 w')) := by
  have ht := tcount_le hk
  refine pm_Met.mk kX5_split hs (pm_J.run [] 40 (fun K hK => hK _ ?_))
  refine pm_J.cP (List.range 29) (c_requireTree hs tx g1 g2 fn pg t1 t2 x hk) gRX5_112 vX5_requireTree (fun E h => ?_) (fun v h => ?_)
  · rcases h with ⟨h1, h2⟩ | ⟨h1, h2⟩
    · cases h2
    · cases h2; exact Or.inl ⟨h1, rfl, rfl⟩
  · rcases h with ⟨h1, h2⟩ | ⟨h1, h2⟩
    · cases h2
      obtain ⟨j, hj, rfl⟩ := ok_nat (by omega) h1
      have hk3 := tcount_3 hj
      have hT2 := gN_I (k := t1.2.2.1) (j := j) (se := g1.2.2.1) hk hT
      refine pm_J.run [] 40 (fun K hK => hK _ ?_)
      refine pm_J.cvG [3, 4, 5, 6, 7, 8, 9] (stN tx (gN t1.2.2.1 j g1 g1.2.2.1) g2 fn pg t1 t2) (gN_grow hs hT hj hk) gRX5_115 vX4_grow ?_
      refine pm_J.run [] 40 (fun K hK => hK _ ?_)
      have hM := c_hasSplit hs (nA (gN t1.2.2.1 j g1 g1.2.2.1).1) (nA (gN t1.2.2.1 j g1 g1.2.2.1).2.1.1) (nA (gN t1.2.2.1 j g1 g1.2.2.1).2.1.2.1) (grR t1.2.2.1 j g1.1 g1.2.1 g1.2.2.2.1).1.2.2 g1.2.2.1 (grR t1.2.2.1 j g1.1 g1.2.1 g1.2.2.2.1).2 (t1.2.2.1 - 2) y (by omega) (by omega) hT2.2.2.2.2.2
      rw [hasS_c (sp := spz t1.2.2.1 j) _ (fun i hi => grR_sp hT.2.1 hk (by omega)), show t1.2.2.1 - 2 - 1 = t1.2.2.1 - 3 by omega] at hM
      refine pm_J.cIG [3, 4, 5, 6, 7, 8, 9] hM gRX5_145 vX4_hasSplit ?_
      refine pm_J.riG (Or.inr ⟨h1, ?_, _, gN_I hk hT, rfl⟩) (hn := ?_)
      · rw [nI_clamp (by omega)]
      · cases hasS (spz t1.2.2.1 j) id y (t1.2.2.1 - 3) <;> rfl
    · cases h2
end SH2
end
section
section SH3
variable {l : Launch}
/-- a division of whole numbers as floats is a number, unless by 0 -/
def FPd : Prop := ∀ x y : Int32, ¬ y = 0 → vf_n32 (FP.fdiv (FP.i2f x) (FP.i2f y))
theorem c_share (hF : FPd) (hs : l.stackTraces = false) (tx : txP) (g1 g2 : trP) (fn : fnP) (pg : pgP) (t1 t2 : tbP) (x : Int32) (hc : fn.2.2 < 2 ^ 31) :
    pm_Met l mX5_share 7 1 6 [.ref 0, .int x] (stN tx g1 g2 fn pg t1 t2) (fun o w' => w' = stN tx g1 g2 fn pg t1 t2 ∧ ((fn.2.2 = 0 ∧ o = .inr eS) ∨ (fn.2.2 ≠ 0 ∧ o = .inl (some (.float (shF fn.2.1 fn.2.2 x)))))) := by
  refine pm_Met.mk kX5_share hs (pm_J.run [] 40 (fun K hK => hK _ ?_))
  refine pm_J.cP (List.range 29) (c_requireFinds hs tx g1 g2 fn pg t1 t2 hc) gRX5_148 vX5_requireFinds (fun E h => ?_) (fun v h => ?_)
  · rcases h with ⟨h1, h2⟩ | ⟨h1, h2⟩
    · cases h2
    · cases h2; exact ⟨rfl, Or.inl ⟨h1, rfl⟩⟩
  · rcases h with ⟨h1, h2⟩ | ⟨h1, h2⟩
    · cases h2
      refine pm_J.run [] 40 (fun K hK => hK _ ?_)
      refine pm_J.cFG [17, 18, 19] (c_shareOf hs (nA fn.1) fn.2.1 fn.2.2 x hc (fun j hj h0 => hF _ _ (fun z => h0 ((nI_z hc).mp z)))) gRX5_151 vX0_shareOf ?_
      exact pm_J.rfG ⟨rfl, Or.inr ⟨h1, rfl⟩⟩
    · cases h2
/-- both trees' rows are new -/
abbrev onG2 (tx : txP) (fn : fnP) (pg : pgP) (t1 t2 : tbP) (w' : List pm_E) : Prop := ∃ g1' g2', TI g1' ∧ TI g2' ∧ w' = stN tx g1' g2' fn pg t1 t2
theorem c_distance (hs : l.stackTraces = false) (tx : txP) (g1 g2 : trP) (fn : fnP) (pg : pgP) (t1 t2 : tbP) (x y : Int32) (hk : t1.2.2.1 ≤ 7) (hT : TI g1) (hU : TI g2) :
    pm_Met l mX5_distance 7 2 12 [.ref 0, .int x, .int y] (stN tx g1 g2 fn pg t1 t2) (fun o w' => (¬ (okT t1.2.2.1 x ∧ okT t1.2.2.1 y) ∧ o = .inr eI ∧ w' = stN tx g1 g2 fn pg t1 t2) ∨ ((okT t1.2.2.1 x ∧ okT t1.2.2.1 y) ∧ o = .inl (some (.int (nI (notIn (spz t1.2.2.1 x.toNatClampNeg) id (spz t1.2.2.1 y.toNatClampNeg) id (t1.2.2.1 - 3) (t1.2.2.1 - 3) + notIn (spz t1.2.2.1 y.toNatClampNeg) id (spz t1.2.2.1 x.toNatClampNeg) id (t1.2.2.1 - 3) (t1.2.2.1 - 3))))) ∧ onG2 tx fn pg t1 t2 w')) := by
  have ht := tcount_le hk
  refine pm_Met.mk kX5_distance hs (pm_J.run [] 40 (fun K hK => hK _ ?_))
  refine pm_J.cP (List.range 29) (c_requireTree hs tx g1 g2 fn pg t1 t2 x hk) gRX5_112 vX5_requireTree (fun E h => ?_) (fun v h => ?_)
  · rcases h with ⟨h1, h2⟩ | ⟨h1, h2⟩
    · cases h2
    · cases h2; exact Or.inl ⟨fun z => h1 z.1, rfl, rfl⟩
  · rcases h with ⟨h1, h2⟩ | ⟨h1, h2⟩
    · cases h2
      refine pm_J.run [] 40 (fun K hK => hK _ ?_)
      refine pm_J.cP (List.range 29) (c_requireTree hs tx g1 g2 fn pg t1 t2 y hk) gRX5_112 vX5_requireTree (fun E h => ?_) (fun v h => ?_)
      · rcases h with ⟨h3, h2⟩ | ⟨h3, h2⟩
        · cases h2
        · cases h2; exact Or.inl ⟨fun z => h3 z.2, rfl, rfl⟩
      · rcases h with ⟨h3, h2⟩ | ⟨h3, h2⟩
        · cases h2
          obtain ⟨j, hj, rfl⟩ := ok_nat (by omega) h1
          obtain ⟨i, hi, rfl⟩ := ok_nat (by omega) h3
          have hk3 := tcount_3 hj
          have hT2 := gN_I (k := t1.2.2.1) (j := j) (se := g1.2.2.1) hk hT
          have hU2 := gN_I (k := t1.2.2.1) (j := i) (se := g2.2.2.1) hk hU
          refine pm_J.run [] 40 (fun K hK => hK _ ?_)
          refine pm_J.cvG [3, 4, 5, 6, 7, 8, 9] (stN tx (gN t1.2.2.1 j g1 g1.2.2.1) g2 fn pg t1 t2) (gN_grow hs hT hj hk) gRX5_115 vX4_grow ?_
          refine pm_J.run [] 40 (fun K hK => hK _ ?_)
          refine pm_J.cvG [10, 11, 12, 13, 14, 15, 16] (stN tx (gN t1.2.2.1 j g1 g1.2.2.1) (gN t1.2.2.1 i g2 g2.2.2.1) fn pg t1 t2) (gN_grow hs hU hi hk) gRX5_115 vX4_grow ?_
          refine pm_J.run [] 40 (fun K hK => hK _ ?_)
          have hA := c_notIn hs (nA (gN t1.2.2.1 j g1 g1.2.2.1).1) (nA (gN t1.2.2.1 j g1 g1.2.2.1).2.1.1) (nA (gN t1.2.2.1 j g1 g1.2.2.1).2.1.2.1) (grR t1.2.2.1 j g1.1 g1.2.1 g1.2.2.2.1).1.2.2 g1.2.2.1 (grR t1.2.2.1 j g1.1 g1.2.1 g1.2.2.2.1).2 (nA (gN t1.2.2.1 i g2 g2.2.2.1).1) (nA (gN t1.2.2.1 i g2 g2.2.2.1).2.1.1) (nA (gN t1.2.2.1 i g2 g2.2.2.1).2.1.2.1) (grR t1.2.2.1 i g2.1 g2.2.1 g2.2.2.2.1).1.2.2 g2.2.2.1 (grR t1.2.2.1 i g2.1 g2.2.1 g2.2.2.2.1).2 (t1.2.2.1 - 2) (by omega) (by omega) hT2.2.2.2.2.2 hU2.2.2.2.2.2
          rw [notIn_c (sp := spz t1.2.2.1 j) (sp2 := spz t1.2.2.1 i) (fun i hi => grR_sp hU.2.1 hk (by omega)) _ (fun i hi => grR_sp hT.2.1 hk (by omega)), show t1.2.2.1 - 2 - 1 = t1.2.2.1 - 3 by omega] at hA
          refine pm_J.cIG [3, 4, 5, 6, 7, 8, 9, 10, 11, 12, 13, 14, 15, 16] hA gRX5_155 vX4_splitsNotIn ?_
          refine pm_J.run [] 40 (fun K hK => hK _ ?_)
          have hB := c_notIn hs (nA (gN t1.2.2.1 i g2 g2.2.2.1).1) (nA (gN t1.2.2.1 i g2 g2.2.2.1).2.1.1) (nA (gN t1.2.2.1 i g2 g2.2.2.1).2.1.2.1) (grR t1.2.2.1 i g2.1 g2.2.1 g2.2.2.2.1).1.2.2 g2.2.2.1 (grR t1.2.2.1 i g2.1 g2.2.1 g2.2.2.2.1).2 (nA (gN t1.2.2.1 j g1 g1.2.2.1).1) (nA (gN t1.2.2.1 j g1 g1.2.2.1).2.1.1) (nA (gN t1.2.2.1 j g1 g1.2.2.1).2.1.2.1) (grR t1.2.2.1 j g1.1 g1.2.1 g1.2.2.2.1).1.2.2 g1.2.2.1 (grR t1.2.2.1 j g1.1 g1.2.1 g1.2.2.2.1).2 (t1.2.2.1 - 2) (by omega) (by omega) hU2.2.2.2.2.2 hT2.2.2.2.2.2
          rw [notIn_c (sp := spz t1.2.2.1 i) (sp2 := spz t1.2.2.1 j) (fun i hi => grR_sp hT.2.1 hk (by omega)) _ (fun i hi => grR_sp hU.2.1 hk (by omega)), show t1.2.2.1 - 2 - 1 = t1.2.2.1 - 3 by omega] at hB
          refine pm_J.cIG [10, 11, 12, 13, 14, 15, 16, 3, 4, 5, 6, 7, 8, 9] hB gRX5_155 vX4_splitsNotIn ?_
          refine pm_J.run [] 40 (fun K hK => hK _ ?_)
          refine pm_J.riG (Or.inr ⟨⟨h1, h3⟩, ?_, _, _, hT2, hU2, rfl⟩)
          rw [nI_clamp (by omega), nI_clamp (by omega), ← nI_add]
        · cases h2
    · cases h2
/-- the two measures of a tree -/
def coF (le len : Nat) : UInt32 := if len = 0 then FP.fconst1 else FP.fdiv (FP.i2f (nI le)) (FP.i2f (nI len))
def reF (mo le len : Nat) : UInt32 := if nI mo - nI le = 0 then FP.fconst1 else FP.fdiv (FP.i2f (nI mo - nI len)) (FP.i2f (nI mo - nI le))
theorem c_consistency (hF : FPd) (hs : l.stackTraces = false) (tx : txP) (g1 g2 : trP) (fn : fnP) (pg : pgP) (t1 t2 : tbP) (x : Int32) (hk : t1.2.2.1 ≤ 7) (hc : t1.2.2.2 ≤ 16) (hw : Bd t1.2.1) (hT : TI g1) :
    pm_Met l mX5_consistency 7 1 6 [.ref 0, .int x] (stN tx g1 g2 fn pg t1 t2) (fun o w' => (¬ okT t1.2.2.1 x ∧ o = .inr eI ∧ w' = stN tx g1 g2 fn pg t1 t2) ∨ (okT t1.2.2.1 x ∧ o = .inl (some (.float (coF (leastS t1.1 t1.2.1 t1.2.2.1 t1.2.2.2) (lenT t1.1 t1.2.1 t1.2.2.1 t1.2.2.2 x.toNatClampNeg)))) ∧ onG tx g2 fn pg t1 t2 w')) := by
  have ht := tcount_le hk
  refine pm_Met.mk kX5_consistency hs (pm_J.run [] 40 (fun K hK => hK _ ?_))
  refine pm_J.cP (List.range 29) (c_requireTree hs tx g1 g2 fn pg t1 t2 x hk) gRX5_112 vX5_requireTree (fun E h => ?_) (fun v h => ?_)
  · rcases h with ⟨h1, h2⟩ | ⟨h1, h2⟩
    · cases h2
    · cases h2; exact Or.inl ⟨h1, rfl, rfl⟩
  · rcases h with ⟨h1, h2⟩ | ⟨h1, h2⟩
    · cases h2
      obtain ⟨j, hj, rfl⟩ := ok_nat (by omega) h1
      have hk3 := tcount_3 hj
      have hM := c_measure hs g1.1 g1.2.1 g1.2.2.1 g1.2.2.2.1 g1.2.2.2.2 j t1.1 t1.2.1 t1.2.2.1 t1.2.2.2 hT (by omega) hk3 hk hc
      rw [pk_canon t1.1 g1.2.2.1 hT.2.1 hk3 hk hj] at hM
      have hlt : lenT t1.1 t1.2.1 t1.2.2.1 t1.2.2.2 j < 2 ^ 30 := lenT_lt hw hc
      have ej : (nI j).toNatClampNeg = j := nI_clamp (by omega)
      refine pm_J.run [] 40 (fun K hK => hK _ ?_)
      refine pm_J.ciwG [3, 4, 5, 6, 7, 8, 9, 23, 24, 25] (stN tx (gN t1.2.2.1 j g1 (pkS (grR t1.2.2.1 j g1.1 g1.2.1 g1.2.2.2.1).1.1 (grR t1.2.2.1 j g1.1 g1.2.1 g1.2.2.2.1).1.2.1 (grR t1.2.2.1 j g1.1 g1.2.1 g1.2.2.2.1).2 (seF t1.1 g1.2.2.1 t1.2.2.1) (t1.2.2.1 - 2)).2.2) g2 fn pg t1 t2) hM gRX5_127 vX4_growAndMeasure ?_
      rw [ej]
      refine pm_J.run [] 40 (fun K hK => And.intro (fun q => hK _ ?_) (fun q => hK _ ?_))
      · have q' : ¬ nI (lenT t1.1 t1.2.1 t1.2.2.1 t1.2.2.2 j) = 0 := q
        refine pm_J.cIG [23, 24, 25] (c_least hs t1.1 t1.2.1 t1.2.2.1 t1.2.2.2 hk hc) gRX5_159 vX2_least ?_
        refine pm_J.run [] 40 (fun K hK => And.intro (hF _ _ q') (hK _ ?_))
        refine pm_J.rfG (Or.inr ⟨h1, ?_, _, gN_I hk hT, rfl⟩)
        rw [nI_z (by omega)] at q'
        rw [coF, if_neg q']
        rfl
      · have q' : ¬ ¬ nI (lenT t1.1 t1.2.1 t1.2.2.1 t1.2.2.2 j) = 0 := q
        rw [nI_z (by omega)] at q'
        exact pm_J.rfG (Or.inr ⟨h1, by rw [coF, if_pos (Classical.not_not.mp q')], _, gN_I hk hT, rfl⟩)
    · cases h2
theorem c_retention (hF : FPd) (hs : l.stackTraces = false) (tx : txP) (g1 g2 : trP) (fn : fnP) (pg : pgP) (t1 t2 : tbP) (x : Int32) (hk : t1.2.2.1 ≤ 7) (hc : t1.2.2.2 ≤ 16) (hT : TI g1) :
    pm_Met l mX5_retention 7 1 6 [.ref 0, .int x] (stN tx g1 g2 fn pg t1 t2) (fun o w' => (¬ okT t1.2.2.1 x ∧ o = .inr eI ∧ w' = stN tx g1 g2 fn pg t1 t2) ∨ (okT t1.2.2.1 x ∧ o = .inl (some (.float (reF (mostS t1.1 t1.2.1 t1.2.2.1 t1.2.2.2) (leastS t1.1 t1.2.1 t1.2.2.1 t1.2.2.2) (lenT t1.1 t1.2.1 t1.2.2.1 t1.2.2.2 x.toNatClampNeg)))) ∧ onG tx g2 fn pg t1 t2 w')) := by
  have ht := tcount_le hk
  refine pm_Met.mk kX5_retention hs (pm_J.run [] 40 (fun K hK => hK _ ?_))
  refine pm_J.cP (List.range 29) (c_requireTree hs tx g1 g2 fn pg t1 t2 x hk) gRX5_112 vX5_requireTree (fun E h => ?_) (fun v h => ?_)
  · rcases h with ⟨h1, h2⟩ | ⟨h1, h2⟩
    · cases h2
    · cases h2; exact Or.inl ⟨h1, rfl, rfl⟩
  · rcases h with ⟨h1, h2⟩ | ⟨h1, h2⟩
    · cases h2
      obtain ⟨j, hj, rfl⟩ := ok_nat (by omega) h1
      have hk3 := tcount_3 hj
      have hM := c_measure hs g1.1 g1.2.1 g1.2.2.1 g1.2.2.2.1 g1.2.2.2.2 j t1.1 t1.2.1 t1.2.2.1 t1.2.2.2 hT (by omega) hk3 hk hc
      rw [pk_canon t1.1 g1.2.2.1 hT.2.1 hk3 hk hj] at hM
      have ej : (nI j).toNatClampNeg = j := nI_clamp (by omega)
      refine pm_J.run [] 40 (fun K hK => hK _ ?_)
      refine pm_J.ciwG [3, 4, 5, 6, 7, 8, 9, 23, 24, 25] (stN tx (gN t1.2.2.1 j g1 (pkS (grR t1.2.2.1 j g1.1 g1.2.1 g1.2.2.2.1).1.1 (grR t1.2.2.1 j g1.1 g1.2.1 g1.2.2.2.1).1.2.1 (grR t1.2.2.1 j g1.1 g1.2.1 g1.2.2.2.1).2 (seF t1.1 g1.2.2.1 t1.2.2.1) (t1.2.2.1 - 2)).2.2) g2 fn pg t1 t2) hM gRX5_127 vX4_growAndMeasure ?_
      rw [ej]
      refine pm_J.run [] 40 (fun K hK => hK _ ?_)
      refine pm_J.cIG [23, 24, 25] (c_most hs t1.1 t1.2.1 t1.2.2.1 t1.2.2.2 hk hc) gRX5_162 vX2_most ?_
      refine pm_J.run [] 40 (fun K hK => hK _ ?_)
      refine pm_J.cIG [23, 24, 25] (c_least hs t1.1 t1.2.1 t1.2.2.1 t1.2.2.2 hk hc) gRX5_159 vX2_least ?_
      refine pm_J.run [] 40 (fun K hK => And.intro (fun q => ?_) (fun q => hK _ ?_))
      · have q' : ¬ nI (mostS t1.1 t1.2.1 t1.2.2.1 t1.2.2.2) - nI (leastS t1.1 t1.2.1 t1.2.2.1 t1.2.2.2) = 0 := q
        refine And.intro (hF _ _ q') (hK _ ?_)
        refine pm_J.rfG (Or.inr ⟨h1, ?_, _, gN_I hk hT, rfl⟩)
        rw [reF, if_neg q']
        rfl
      · have q' : ¬ ¬ nI (mostS t1.1 t1.2.1 t1.2.2.1 t1.2.2.2) - nI (leastS t1.1 t1.2.1 t1.2.2.1 t1.2.2.2) = 0 := q
        exact pm_J.rfG (Or.inr ⟨h1, by rw [reF, if_pos (Classical.not_not.mp q')], _, gN_I hk hT, rfl⟩)
    · cases h2
end SH3
end
section
section SH4
variable {l : Launch}
def agF (sp gr : Nat → Nat) : Nat → (Nat → Nat)
  | 0 => gr
  | i + 1 => upN (agF sp gr i) i (sp i)
theorem agF_Bd {sp gr : Nat → Nat} (hs : ∀ i, sp i < 128) (hg : Bd gr) : ∀ i, Bd (agF sp gr i)
  | 0 => hg
  | i + 1 => (agF_Bd hs hg i).up (hs i)
set_option maxHeartbeats 1000000 in
theorem c_write (hs : l.stackTraces = false) (tx : txP) (g1 g2 : trP) (fn : fnP) (pg : pgP) (t1 t2 : tbP) (x : Int32) (hk : t1.2.2.1 ≤ 7) (hT : TI g1) (hg : Bd pg.2.1) :
    pm_Met l mX5_write 12 1 6 [.ref 0, .int x] (stN tx g1 g2 fn pg t1 t2) (fun o w' => (¬ okT t1.2.2.1 x ∧ o = .inr eI ∧ w' = stN tx g1 g2 fn pg t1 t2) ∨ (okT t1.2.2.1 x ∧ o = .inl (some (.int (nI (flF (agF (spz t1.2.2.1 x.toNatClampNeg) pg.2.1 (t1.2.2.1 - 3)) (t1.2.2.1 - 3) t1.2.2.1 pg.1.1).2))) ∧
      onG tx g2 fn (flF (agF (spz t1.2.2.1 x.toNatClampNeg) pg.2.1 (t1.2.2.1 - 3)) (t1.2.2.1 - 3) t1.2.2.1 pg.1.1, agF (spz t1.2.2.1 x.toNatClampNeg) pg.2.1 (t1.2.2.1 - 3), t1.2.2.1 - 3) t1 t2 w')) := by
  have ht := tcount_le hk
  refine pm_Met.mk kX5_write hs (pm_J.run [] 40 (fun K hK => hK _ ?_))
  refine pm_J.cP (List.range 29) (c_requireTree hs tx g1 g2 fn pg t1 t2 x hk) gRX5_112 vX5_requireTree (fun E h => ?_) (fun v h => ?_)
  · rcases h with ⟨h1, h2⟩ | ⟨h1, h2⟩
    · cases h2
    · cases h2; exact Or.inl ⟨h1, rfl, rfl⟩
  · rcases h with ⟨h1, h2⟩ | ⟨h1, h2⟩
    · cases h2
      obtain ⟨j, hj, rfl⟩ := ok_nat (by omega) h1
      have hk3 := tcount_3 hj
      have ej : (nI j).toNatClampNeg = j := nI_clamp (by omega)
      have hT2 := gN_I (k := t1.2.2.1) (j := j) (se := g1.2.2.1) hk hT
      have hBd := agF_Bd (sp := spz t1.2.2.1 j) (fun i => spz_lt hk) hg
      rw [ej]
      refine pm_J.run [] 40 (fun K hK => hK _ ?_)
      refine pm_J.cvG [3, 4, 5, 6, 7, 8, 9] (stN tx (gN t1.2.2.1 j g1 g1.2.2.1) g2 fn pg t1 t2) (gN_grow hs hT hj hk) gRX5_115 vX4_grow ?_
      refine pm_J.run [] 40 (fun K hK => hK _ ?_)
      refine pm_J.cvG [20, 21, 22] (stN tx (gN t1.2.2.1 j g1 g1.2.2.1) g2 fn (pg.1, agF (spz t1.2.2.1 j) pg.2.1 0, 0) t1 t2) (c_forgetGroups hs (nA pg.1.1) (nA pg.2.1) (nI pg.1.2) (nI pg.2.2)) gRX5_165 vX1_forgetGroups ?_
      refine pm_J.run [29] 40 (fun K hK => hK _ ?_)
      generalize hO : (fun (o : pm_O) (w' : List pm_E) => (¬ okT t1.2.2.1 (nI j) ∧ o = .inr eI ∧ w' = stN tx g1 g2 fn pg t1 t2) ∨ (okT t1.2.2.1 (nI j) ∧ o = .inl (some (.int (nI (flF (agF (spz t1.2.2.1 j) pg.2.1 (t1.2.2.1 - 3)) (t1.2.2.1 - 3) t1.2.2.1 pg.1.1).2))) ∧
        onG tx g2 fn (flF (agF (spz t1.2.2.1 j) pg.2.1 (t1.2.2.1 - 3)) (t1.2.2.1 - 3) t1.2.2.1 pg.1.1, agF (spz t1.2.2.1 j) pg.2.1 (t1.2.2.1 - 3), t1.2.2.1 - 3) t1 t2 w')) = O
      refine pm_up (b := t1.2.2.1 - 3) (P := fun i => pm_J l mX5_write iX5_write 12 1 6 29 O (0 + 1) (0 + 6) (29, [some (.ref 0), some (.int (nI j)), some (.int (nI i))], [], stN tx (gN t1.2.2.1 j g1 g1.2.2.1) g2 fn (pg.1, agF (spz t1.2.2.1 j) pg.2.1 i, i) t1 t2)) 0 (Nat.zero_le _) ?_ (fun i g1' g2' ih => ?_)
      · refine pm_J.run [] 40 (fun K hK => hK _ ?_)
        refine pm_J.cIG [3, 4, 5, 6, 7, 8, 9] (c_splitCount hs (nA (gN t1.2.2.1 j g1 g1.2.2.1).1) (nA (gN t1.2.2.1 j g1 g1.2.2.1).2.1.1) (nA (gN t1.2.2.1 j g1 g1.2.2.1).2.1.2.1) (nA (gN t1.2.2.1 j g1 g1.2.2.1).2.1.2.2) g1.2.2.1 (nA (gN t1.2.2.1 j g1 g1.2.2.1).2.2.2.1) (t1.2.2.1 - 2) (by omega)) gRX5_168 vX4_splitCount ?_
        refine pm_J.run [] 40 (fun K hK => br_t (nI_le (by omega) (by omega)) (hK _ ?_))
        refine pm_J.ciwG [20, 21, 22] (stN tx (gN t1.2.2.1 j g1 g1.2.2.1) g2 fn (flF (agF (spz t1.2.2.1 j) pg.2.1 (t1.2.2.1 - 3)) (t1.2.2.1 - 3) t1.2.2.1 pg.1.1, agF (spz t1.2.2.1 j) pg.2.1 (t1.2.2.1 - 3), t1.2.2.1 - 3) t1 t2) (c_fill hs (agF (spz t1.2.2.1 j) pg.2.1 (t1.2.2.1 - 3)) (t1.2.2.1 - 3) t1.2.2.1 pg.1.1 (nI pg.1.2) (hBd _) (by omega) hk3 hk) gRX5_178 vX1_fill ?_
        refine pm_J.riG ?_
        rw [← hO]
        exact Or.inr ⟨h1, rfl, _, hT2, rfl⟩
      · refine pm_J.run [] 40 (fun K hK => hK _ ?_)
        refine pm_J.cIG [3, 4, 5, 6, 7, 8, 9] (c_splitCount hs (nA (gN t1.2.2.1 j g1 g1.2.2.1).1) (nA (gN t1.2.2.1 j g1 g1.2.2.1).2.1.1) (nA (gN t1.2.2.1 j g1 g1.2.2.1).2.1.2.1) (nA (gN t1.2.2.1 j g1 g1.2.2.1).2.1.2.2) g1.2.2.1 (nA (gN t1.2.2.1 j g1 g1.2.2.1).2.2.2.1) (t1.2.2.1 - 2) (by omega)) gRX5_168 vX4_splitCount ?_
        refine pm_J.run [] 40 (fun K hK => br_f (nI_ge (a := i) (b := t1.2.2.1 - 2 - 1) (by omega) (by omega)) (hK _ ?_))
        have hM := c_splitAt hs (nA (gN t1.2.2.1 j g1 g1.2.2.1).1) (nA (gN t1.2.2.1 j g1 g1.2.2.1).2.1.1) (nA (gN t1.2.2.1 j g1 g1.2.2.1).2.1.2.1) (grR t1.2.2.1 j g1.1 g1.2.1 g1.2.2.2.1).1.2.2 g1.2.2.1 (grR t1.2.2.1 j g1.1 g1.2.1 g1.2.2.2.1).2 (nI (t1.2.2.1 - 2)) i (by omega) hT2.2.2.2.2.2
        rw [grR_sp hT.2.1 hk (by omega)] at hM
        refine pm_J.cIG [3, 4, 5, 6, 7, 8, 9] hM gRX5_171 vX4_splitAt ?_
        have hN := c_addGroup hs (nA pg.1.1) (agF (spz t1.2.2.1 j) pg.2.1 i) (nI pg.1.2) i (spz t1.2.2.1 j i) (by omega)
        rw [if_pos (show i < 7 by omega)] at hN
        refine pm_J.cvG [20, 21, 22] (stN tx (gN t1.2.2.1 j g1 g1.2.2.1) g2 fn (pg.1, agF (spz t1.2.2.1 j) pg.2.1 (i + 1), i + 1) t1 t2) hN gRX5_175 vX1_addGroup ?_
        refine pm_J.run [29] 40 (fun K hK => hK _ ?_)
        have e : (some (Value.int (nI (i + 1)))) = some (Value.int (nI i + nI 1)) := by rw [nI_add i 1]
        rw [e] at ih
        exact ih
    · cases h2
/-- is 'above' 0.5 to 1 -/
def okA (ab : UInt32) : Prop := ¬ Op.cmpValue (FP.fcmp ab 1056964608) .l < 0 ∧ Op.cmpValue (FP.fcmp ab FP.fconst1) .g ≤ 0
def cmB (ta : Nat → Nat) (cnt : Nat) (ab : UInt32) (s : Nat) : Bool := decide (0 < Op.cmpValue (FP.fcmp (shF ta cnt (nI s)) ab) .l) || decide (Op.cmpValue (FP.fcmp (shF ta cnt (nI s)) FP.fconst1) .l = 0)
def coS (ta : Nat → Nat) (cnt : Nat) (ab : UInt32) (gr : Nat → Nat) : Nat → (Nat → Nat) × Nat
  | 0 => (gr, 0)
  | s + 1 => if cmB ta cnt ab s = true then (if (coS ta cnt ab gr s).2 < 7 then (upN (coS ta cnt ab gr s).1 (coS ta cnt ab gr s).2 s, (coS ta cnt ab gr s).2 + 1) else coS ta cnt ab gr s) else coS ta cnt ab gr s
theorem coS_ok {ta : Nat → Nat} {cnt : Nat} {ab : UInt32} {gr : Nat → Nat} (hg : Bd gr) : ∀ s, s ≤ 128 → Bd (coS ta cnt ab gr s).1 ∧ (coS ta cnt ab gr s).2 ≤ 7
  | 0, _ => ⟨hg, Nat.zero_le _⟩
  | s + 1, hs => by
    have ih := coS_ok (ta := ta) (cnt := cnt) (ab := ab) hg s (by omega)
    unfold coS
    split
    · split
      · exact ⟨ih.1.up (by omega), by show _ + 1 ≤ 7; omega⟩
      · exact ih
    · exact ih
set_option maxHeartbeats 1000000 in
theorem c_common (hF : FPd) (hs : l.stackTraces = false) (tx : txP) (g1 g2 : trP) (fn : fnP) (pg : pgP) (t1 t2 : tbP) (ab : UInt32) (hk : t1.2.2.1 ≤ 7) (hc : fn.2.2 < 2 ^ 31) (hk3 : fn.2.2 ≠ 0 → 3 ≤ t1.2.2.1) (hg : Bd pg.2.1) :
    pm_Met l mX5_common 12 2 12 [.ref 0, .float ab] (stN tx g1 g2 fn pg t1 t2) (fun o w' => (fn.2.2 = 0 ∧ o = .inr eS ∧ w' = stN tx g1 g2 fn pg t1 t2) ∨ (fn.2.2 ≠ 0 ∧ ¬ okA ab ∧ o = .inr eA ∧ w' = stN tx g1 g2 fn pg t1 t2) ∨
      (fn.2.2 ≠ 0 ∧ okA ab ∧ o = .inl (some (.int (nI (flF (coS fn.2.1 fn.2.2 ab pg.2.1 128).1 (coS fn.2.1 fn.2.2 ab pg.2.1 128).2 t1.2.2.1 pg.1.1).2))) ∧ w' = stN tx g1 g2 fn (flF (coS fn.2.1 fn.2.2 ab pg.2.1 128).1 (coS fn.2.1 fn.2.2 ab pg.2.1 128).2 t1.2.2.1 pg.1.1, coS fn.2.1 fn.2.2 ab pg.2.1 128) t1 t2)) := by
  refine pm_Met.mk kX5_common hs (pm_J.run [] 40 (fun K hK => hK _ ?_))
  refine pm_J.cP (List.range 29) (c_requireFinds hs tx g1 g2 fn pg t1 t2 hc) gRX5_148 vX5_requireFinds (fun E h => ?_) (fun v h => ?_)
  · rcases h with ⟨h1, h2⟩ | ⟨h1, h2⟩
    · cases h2
    · cases h2; exact Or.inl ⟨h1, rfl, rfl⟩
  · rcases h with ⟨h1, h2⟩ | ⟨h1, h2⟩
    · cases h2
      have hk3' := hk3 h1
      generalize hO : (fun (o : pm_O) (w' : List pm_E) => (fn.2.2 = 0 ∧ o = .inr eS ∧ w' = stN tx g1 g2 fn pg t1 t2) ∨ (fn.2.2 ≠ 0 ∧ ¬ okA ab ∧ o = .inr eA ∧ w' = stN tx g1 g2 fn pg t1 t2) ∨
        (fn.2.2 ≠ 0 ∧ okA ab ∧ o = .inl (some (.int (nI (flF (coS fn.2.1 fn.2.2 ab pg.2.1 128).1 (coS fn.2.1 fn.2.2 ab pg.2.1 128).2 t1.2.2.1 pg.1.1).2))) ∧ w' = stN tx g1 g2 fn (flF (coS fn.2.1 fn.2.2 ab pg.2.1 128).1 (coS fn.2.1 fn.2.2 ab pg.2.1 128).2 t1.2.2.1 pg.1.1, coS fn.2.1 fn.2.2 ab pg.2.1 128) t1 t2)) = O
      have bad : ¬ okA ab → pm_J l mX5_common iX5_common 12 2 12 29 O (0 + 1) (0 + 6) (17, [some (.ref 0), some (.float ab), none, none], [], stN tx g1 g2 fn pg t1 t2) := fun ha => pm_J.thA "above is 0.5 to 1" st_182 (by rw [← hO]; exact Or.inr (Or.inl ⟨h1, ha, rfl, rfl⟩))
      refine pm_J.run [17] 40 (fun K hK => And.intro (fun q => hK _ ?_) (fun q => And.intro (fun q2 => hK _ ?_) (fun q2 => hK _ ?_)))
      · exact bad (fun z => z.1 q)
      · have ha : okA ab := ⟨q, q2⟩
        refine pm_J.run [] 40 (fun K hK => hK _ ?_)
        refine pm_J.cvG [20, 21, 22] (stN tx g1 g2 fn (pg.1, coS fn.2.1 fn.2.2 ab pg.2.1 0) t1 t2) (c_forgetGroups hs (nA pg.1.1) (nA pg.2.1) (nI pg.1.2) (nI pg.2.2)) gRX5_165 vX1_forgetGroups ?_
        refine pm_J.run [36] 40 (fun K hK => hK _ ?_)
        have key : ∀ x3, pm_J l mX5_common iX5_common 12 2 12 29 O (0 + 1) (0 + 6) (36, [some (.ref 0), some (.float ab), some (.int (nI 0)), x3], [], stN tx g1 g2 fn (pg.1, coS fn.2.1 fn.2.2 ab pg.2.1 0) t1 t2) := by
          refine pm_up (b := 128) (P := fun s => ∀ x3, pm_J l mX5_common iX5_common 12 2 12 29 O (0 + 1) (0 + 6) (36, [some (.ref 0), some (.float ab), some (.int (nI s)), x3], [], stN tx g1 g2 fn (pg.1, coS fn.2.1 fn.2.2 ab pg.2.1 s) t1 t2)) 0 (by decide) (fun x3 => ?_) (fun s s1 s2 ih x3 => ?_)
          · obtain ⟨o1, o2⟩ := coS_ok (ta := fn.2.1) (cnt := fn.2.2) (ab := ab) hg 128 (by decide)
            refine pm_J.run [] 40 (fun K hK => br_t (nI_le (a := 128) (b := 128) (by decide) (by decide)) (hK _ ?_))
            refine pm_J.ciwG [20, 21, 22] (stN tx g1 g2 fn (flF (coS fn.2.1 fn.2.2 ab pg.2.1 128).1 (coS fn.2.1 fn.2.2 ab pg.2.1 128).2 t1.2.2.1 pg.1.1, coS fn.2.1 fn.2.2 ab pg.2.1 128) t1 t2) (c_fill hs (coS fn.2.1 fn.2.2 ab pg.2.1 128).1 (coS fn.2.1 fn.2.2 ab pg.2.1 128).2 t1.2.2.1 pg.1.1 (nI pg.1.2) o1 o2 hk3' hk) gRX5_178 vX1_fill ?_
            refine pm_J.riG ?_
            rw [← hO]
            exact Or.inr (Or.inr ⟨h1, ha, rfl, rfl⟩)
          · obtain ⟨o1, o2⟩ := coS_ok (ta := fn.2.1) (cnt := fn.2.2) (ab := ab) hg s (by omega)
            have e : coS fn.2.1 fn.2.2 ab pg.2.1 (s + 1) = if cmB fn.2.1 fn.2.2 ab s = true then (if (coS fn.2.1 fn.2.2 ab pg.2.1 s).2 < 7 then (upN (coS fn.2.1 fn.2.2 ab pg.2.1 s).1 (coS fn.2.1 fn.2.2 ab pg.2.1 s).2 s, (coS fn.2.1 fn.2.2 ab pg.2.1 s).2 + 1) else coS fn.2.1 fn.2.2 ab pg.2.1 s) else coS fn.2.1 fn.2.2 ab pg.2.1 s := rfl
            rw [e, ← nI_add s 1] at ih
            clear e
            refine pm_J.run [] 40 (fun K hK => br_f (nI_ge (a := s) (b := 128) s2 (by decide)) (hK _ ?_))
            refine pm_J.cFG [17, 18, 19] (c_shareOf hs (nA fn.1) fn.2.1 fn.2.2 (nI s) hc (fun j hj h0 => hF _ _ (fun z => h0 ((nI_z hc).mp z)))) gRX5_151 vX0_shareOf ?_
            generalize hcs : coS fn.2.1 fn.2.2 ab pg.2.1 s = z at o1 o2 ih ⊢
            have yes : cmB fn.2.1 fn.2.2 ab s = true → pm_J l mX5_common iX5_common 12 2 12 29 O (0 + 1) (0 + 6) (64, [some (.ref 0), some (.float ab), some (.int (nI s)), some (.float (shF fn.2.1 fn.2.2 (nI s)))], [], stN tx g1 g2 fn (pg.1, z) t1 t2) := by
              intro hb
              have ih2 := ih (some (.float (shF fn.2.1 fn.2.2 (nI s))))
              rw [if_pos hb] at ih2
              refine pm_J.run [] 40 (fun K hK => hK _ ?_)
              have hN := c_addGroup hs (nA pg.1.1) z.1 (nI pg.1.2) z.2 s o2
              by_cases h7 : z.2 < 7
              · rw [if_pos h7] at hN ih2
                refine pm_J.cvG [20, 21, 22] (stN tx g1 g2 fn (pg.1, upN z.1 z.2 s, z.2 + 1) t1 t2) hN gRX5_175 vX1_addGroup ?_
                refine pm_J.run [36] 40 (fun K hK => hK _ ?_)
                exact ih2
              · rw [if_neg h7] at hN ih2
                refine pm_J.cvG [20, 21, 22] (stN tx g1 g2 fn (pg.1, z) t1 t2) hN gRX5_175 vX1_addGroup ?_
                refine pm_J.run [36] 40 (fun K hK => hK _ ?_)
                exact ih2
            refine pm_J.run [64, 36] 40 (fun K hK => And.intro (fun q3 => hK _ ?_) (fun q3 => And.intro (fun q4 => hK _ ?_) (fun q4 => hK _ ?_)))
            · exact yes (by unfold cmB; rw [decide_eq_true q3]; rfl)
            · have ih2 := ih (some (.float (shF fn.2.1 fn.2.2 (nI s))))
              rw [if_neg (by unfold cmB; rw [decide_eq_false q3, decide_eq_false q4]; decide)] at ih2
              exact ih2
            · exact yes (by unfold cmB; rw [decide_eq_true (Classical.not_not.mp q4), Bool.or_true])
        exact key none
      · exact bad (fun z => q2 z.2)
    · cases h2
end SH4
end
section
section MOD
variable {l : Launch}
abbrev mA : Type := (Nat → Nat) × Nat
abbrev mP : Type := Nat × Int32 × Nat × Nat × (Nat → Nat)
abbrev mT : Type := Nat × Nat × (Nat → Nat) × (Nat → Nat)
abbrev mF : Type := Nat × (Nat → Nat)
abbrev mG : Type := Nat × (Nat → Nat) × (Nat → Nat) × (Nat → Nat) × (Nat → Nat) × (Nat → Nat)
abbrev mS : Type := Nat × (Nat → Nat) × Nat × (Nat → Nat)
abbrev mW : Type := Nat × (Nat → Nat) × (Nat → Int32)
/-- the reference's cells: text; reading; table; what is found; tree; splits; writing; thrown -/
abbrev moW (A : mA) (P : mP) (T : mT) (F : mF) (G : mG) (S : mS) (W : mW) (th : Nat) : List pm_E :=
  [.inr (6, [.int (nI A.2), .ref 1, .int (nI P.1), .int P.2.1, .int (nI T.1), .int (nI T.2.1), .ref 2, .ref 3, .ref 4, .int (nI P.2.2.1), .int (nI P.2.2.2.1), .int (nI F.1), .ref 5, .int (nI G.1), .ref 6, .ref 7, .ref 8, .ref 9, .ref 10, .int (nI S.1), .ref 11, .int (nI S.2.2.1), .ref 12, .int (nI W.1), .ref 13, .ref 14, .int (nI th)]),
   .inl (.char, 160, .inl (nA A.1)), .inl (.int, 112, .inl (nA T.2.2.1)), .inl (.int, 16, .inl (nA T.2.2.2)), .inl (.int, 112, .inl (nA P.2.2.2.2)), .inl (.int, 945, .inl (nA F.2)), .inl (.int, 16, .inl (nA G.2.1)), .inl (.int, 16, .inl (nA G.2.2.1)), .inl (.int, 16, .inl (nA G.2.2.2.1)), .inl (.boolean, 16, .inl (nA G.2.2.2.2.1)), .inl (.int, 64, .inl (nA G.2.2.2.2.2)), .inl (.int, 8, .inl (nA S.2.1)), .inl (.int, 8, .inl (nA S.2.2.2)), .inl (.char, 64, .inl (nA W.2.1)), .inl (.int, 64, .inl W.2.2)]
abbrev q15 : List Nat := [0, 1, 2, 3, 4, 5, 6, 7, 8, 9, 10, 11, 12, 13, 14]
theorem d_thrown (hs : l.stackTraces = false) (A : mA) (P : mP) (T : mT) (F : mF) (G : mG) (S : mS) (W : mW) (th : Nat) : pm_Met l mX6_thrown 1 0 0 [.ref 0] (moW A P T F G S W th) (isI (nI th) (moW A P T F G S W th)) := by
  refine pm_Met.mk kX6_thrown hs (pm_J.run [] 20 (fun K hK => hK _ ?_))
  exact pm_J.ri ⟨rfl, rfl⟩
theorem d_type (hs : l.stackTraces = false) (A : mA) (P : mP) (T : mT) (F : mF) (G : mG) (S : mS) (W : mW) (th v : Nat) (hn : A.2 ≤ 160) (hv : v < 65536) : pm_Met l mX6_type 1 0 0 [.ref 0, .int (nI v)] (moW A P T F G S W th) (if A.2 = 160 then isI (nI 0) (moW A P T F G S W 1) else isI (nI (A.2 + 1)) (moW (upN A.1 A.2 v, A.2 + 1) P T F G S W 0)) := by
  refine pm_Met.mk kX6_type hs (pm_J.run [16] 20 (fun K hK => And.intro (fun q => hK _ ?_) (fun q => hK _ ?_)))
  · have q' : ¬ nI A.2 = nI 160 := q
    rw [nI_eq (by omega) (by decide)] at q'
    rw [if_neg q']
    refine pm_J.run [] 40 (fun K hK => br_t (by decide) (And.intro (vp_in_nI (by omega) (by decide)) (hK _ ?_)))
    rw [nar_char hv, nI_clamp (by omega)]
    refine pm_J.ri ⟨by rw [← nI_add A.2 1]; rfl, ?_⟩
    unfold moW
    dsimp only
    rw [← nA_upd, ← nI_add A.2 1]
    rfl
  · have q' : ¬ ¬ nI A.2 = nI 160 := q
    rw [nI_eq (by omega) (by decide)] at q'
    rw [if_pos (Classical.not_not.mp q')]
    refine pm_J.run [] 40 (fun K hK => br_f (by decide) (hK _ ?_))
    exact pm_J.ri ⟨rfl, rfl⟩
theorem d_isCharacter (hs : l.stackTraces = false) (A : mA) (P : mP) (T : mT) (F : mF) (G : mG) (S : mS) (W : mW) (th : Nat) (x : Int32) : pm_Met l mX6_isCharacter 1 0 0 [.ref 0, .int x] (moW A P T F G S W th) (isI (if 0 ≤ x ∧ x < nI T.2.1 then nI 1 else nI 0) (moW A P T F G S W th)) := by
  refine pm_Met.mk kX6_isCharacter hs (pm_J.run [] 20 (fun K hK => And.intro (fun h => hK _ ?_) (fun h => And.intro (fun h2 => hK _ ?_) (fun h2 => hK _ ?_))))
  · exact pm_J.ri ⟨by rw [if_neg (fun z => absurd h (Int32.not_lt.mpr z.1))]; rfl, rfl⟩
  · exact pm_J.ri ⟨by rw [if_neg (fun z => absurd z.2 (Int32.not_lt.mpr h2))]; rfl, rfl⟩
  · exact pm_J.ri ⟨by rw [if_pos ⟨Int32.not_lt.mp h, Int32.not_le.mp h2⟩]; rfl, rfl⟩
theorem d_states (hs : l.stackTraces = false) (A : mA) (P : mP) (T : mT) (F : mF) (G : mG) (S : mS) (W : mW) (th : Nat) (x y : Int32) (hk : T.1 ≤ 7) (hc : T.2.1 ≤ 16) : pm_Met l mX6_states 2 0 0 [.ref 0, .int x, .int y] (moW A P T F G S W th) (fun o w' => ((okC T.1 x ∧ okC T.2.1 y) ∧ o = .inl (some (.int (nI (T.2.2.1 (16 * x.toNatClampNeg + y.toNatClampNeg))))) ∧ w' = moW A P T F G S W 0) ∨ (¬ (okC T.1 x ∧ okC T.2.1 y) ∧ o = .inl (some (.int (nI 0))) ∧ w' = moW A P T F G S W 1)) := by
  generalize hO : (fun (o : pm_O) (w' : List pm_E) => ((okC T.1 x ∧ okC T.2.1 y) ∧ o = .inl (some (.int (nI (T.2.2.1 (16 * x.toNatClampNeg + y.toNatClampNeg))))) ∧ w' = moW A P T F G S W 0) ∨ (¬ (okC T.1 x ∧ okC T.2.1 y) ∧ o = .inl (some (.int (nI 0))) ∧ w' = moW A P T F G S W 1)) = O
  have bad : ¬ (okC T.1 x ∧ okC T.2.1 y) → pm_J l mX6_states iX6_states 2 0 0 15 O 0 0 (21, [some (.ref 0), some (.int x), some (.int y)], [.ref 0], moW A P T F G S W th) := by
    intro h
    refine pm_J.run [] 40 (fun K hK => br_t (by decide) (hK _ ?_))
    refine pm_J.ri ?_
    rw [← hO]
    exact Or.inr ⟨h, rfl, rfl⟩
  refine pm_Met.mk kX6_states hs (pm_J.run [21] 40 (fun K hK => And.intro (fun q => hK _ ?_) (fun q => And.intro (fun q2 => hK _ ?_) (fun q2 => hK _ ?_))))
  · exact bad (fun z => absurd q (Int32.not_lt.mpr z.1.1))
  · exact bad (fun z => absurd z.1.2 (Int32.not_lt.mpr q2))
  · refine pm_J.cI q15 (d_isCharacter hs A P T F G S W th y) gRX6_103 vX6_isCharacter ?_
    by_cases h : 0 ≤ y ∧ y < nI T.2.1
    · rw [if_pos h]
      have hx : okC T.1 x := ⟨Int32.not_lt.mp q, Int32.not_le.mp q2⟩
      obtain ⟨a, ha, rfl⟩ := ok_nat (by omega) hx
      obtain ⟨b, hb, rfl⟩ := ok_nat (by omega) h
      have e : nI 16 * nI a + nI b = nI (16 * a + b) := by rw [pk_mul, nI_add]
      have e' : pm_k 16 * nI a + nI b = nI (16 * a + b) := e
      refine pm_J.run [21] 40 (fun K hK => br_t (by decide) (br_f (by decide) (And.intro (by rw [e']; exact vp_in_nI (by omega) (by decide)) (hK _ ?_))))
      rw [e', nI_clamp (by omega)]
      refine pm_J.ri ?_
      rw [← hO]
      refine Or.inl ⟨⟨hx, h⟩, ?_, rfl⟩
      rw [nI_clamp (by omega), nI_clamp (by omega)]
    · rw [if_neg h]
      refine pm_J.run [21] 40 (fun K hK => br_f (by decide) (hK _ ?_))
      exact bad (fun z => h z.2)
theorem d_weigh (hs : l.stackTraces = false) (A : mA) (P : mP) (T : mT) (F : mF) (G : mG) (S : mS) (W : mW) (th : Nat) (x y : Int32) (hc : T.2.1 ≤ 16) : pm_Met l mX6_weigh 2 0 0 [.ref 0, .int x, .int y] (moW A P T F G S W th) (fun o w' => (¬ okC T.2.1 x ∧ o = .inl (some (.int (nI 0))) ∧ w' = moW A P T F G S W 1) ∨ (okC T.2.1 x ∧ ¬ (nI 1 ≤ y ∧ y ≤ nI 9) ∧ o = .inl (some (.int (nI 0))) ∧ w' = moW A P T F G S W 2) ∨
    (okC T.2.1 x ∧ (nI 1 ≤ y ∧ y ≤ nI 9) ∧ o = .inl (some (.int (nI (T.2.2.2 x.toNatClampNeg)))) ∧ w' = moW A P (T.1, T.2.1, T.2.2.1, upN T.2.2.2 x.toNatClampNeg y.toNatClampNeg) (0, F.2) G S W 0)) := by
  generalize hO : (fun (o : pm_O) (w' : List pm_E) => (¬ okC T.2.1 x ∧ o = .inl (some (.int (nI 0))) ∧ w' = moW A P T F G S W 1) ∨ (okC T.2.1 x ∧ ¬ (nI 1 ≤ y ∧ y ≤ nI 9) ∧ o = .inl (some (.int (nI 0))) ∧ w' = moW A P T F G S W 2) ∨
    (okC T.2.1 x ∧ (nI 1 ≤ y ∧ y ≤ nI 9) ∧ o = .inl (some (.int (nI (T.2.2.2 x.toNatClampNeg)))) ∧ w' = moW A P (T.1, T.2.1, T.2.2.1, upN T.2.2.2 x.toNatClampNeg y.toNatClampNeg) (0, F.2) G S W 0)) = O
  refine pm_Met.mk kX6_weigh hs (pm_J.run [] 40 (fun K hK => hK _ ?_))
  refine pm_J.cI q15 (d_isCharacter hs A P T F G S W th x) gRX6_103 vX6_isCharacter ?_
  by_cases h : 0 ≤ x ∧ x < nI T.2.1
  · rw [if_pos h]
    have bad : ¬ (nI 1 ≤ y ∧ y ≤ nI 9) → pm_J l mX6_weigh iX6_weigh 2 0 0 15 O 0 0 (24, [some (.ref 0), some (.int x), some (.int y), none], [.ref 0], moW A P T F G S W th) := by
      intro hy
      refine pm_J.run [] 40 (fun K hK => br_f (by decide) (hK _ ?_))
      refine pm_J.ri ?_
      rw [← hO]
      exact Or.inr (Or.inl ⟨h, hy, rfl, rfl⟩)
    refine pm_J.run [24] 40 (fun K hK => br_t (by decide) (And.intro (fun q => hK _ ?_) (fun q => And.intro (fun q2 => ?_) (fun q2 => hK _ ?_))))
    · exact bad (fun z => absurd q (Int32.not_lt.mpr z.1))
    · have hy : nI 1 ≤ y ∧ y ≤ nI 9 := ⟨Int32.not_lt.mp q, q2⟩
      obtain ⟨a, ha, rfl⟩ := ok_nat (by omega) h
      obtain ⟨b, hb, rfl⟩ : ∃ b, b ≤ 9 ∧ y = nI b := by
        obtain ⟨b, hb, rfl⟩ := nI_of (x := y) (Int32.not_lt.mpr (Int32.le_trans (by decide) hy.1))
        exact ⟨b, (nI_leI hb (by decide)).mp hy.2, rfl⟩
      have ea : (nI a).toNatClampNeg = a := nI_clamp (by omega)
      have eb : (nI b).toNatClampNeg = b := nI_clamp (by omega)
      refine br_t (by decide) (And.intro (vp_in_nI (by omega) (by decide)) (And.intro (vp_in_nI (by omega) (by decide)) (hK _ ?_)))
      refine pm_J.ri ?_
      rw [← hO]
      refine Or.inr (Or.inr ⟨h, hy, rfl, ?_⟩)
      rw [ea, eb]
      unfold moW
      dsimp only
      rw [← nA_upd]
      rfl
    · exact bad (fun z => q2 z.2)
  · rw [if_neg h]
    refine pm_J.run [] 40 (fun K hK => br_f (by decide) (br_f (by decide) (hK _ ?_)))
    refine pm_J.ri ?_
    rw [← hO]
    exact Or.inl ⟨h, rfl, rfl⟩
theorem d_many (hs : l.stackTraces = false) (A : mA) (P : mP) (T : mT) (F : mF) (G : mG) (S : mS) (W : mW) (th : Nat) (hk : T.1 ≤ 7) : pm_Met l mX6_many 1 0 0 [.ref 0] (moW A P T F G S W th) (isI (nI (tcount T.1)) (moW A P T F G S W th)) := by
  refine pm_Met.mk kX6_many hs (pm_J.run [13] 20 (fun K hK => And.intro (fun h => hK _ ?_) (fun h => hK _ ?_)))
  · have h3 : 3 ≤ T.1 := (nI_leI (a := 3) (b := T.1) (by omega) (by omega)).mp h
    refine pm_J.run [16] 20 (fun K hK => hK _ ?_)
    refine pm_up (b := T.1) (P := fun i => pm_J l mX6_many iX6_many 1 0 0 15 (isI (nI (tcount T.1)) (moW A P T F G S W th)) 0 0 (16, [some (.ref 0), some (.int (nI (tprod i))), some (.int (nI i))], [], moW A P T F G S W th)) 3 h3 ?_ (fun i h1 h2 ih => ?_)
    · refine pm_J.run [16] 40 (fun K hK => br_t (nI_le (Nat.le_refl _) (by omega)) (hK _ ?_))
      exact pm_J.ri ⟨by rw [tcount, if_neg (by omega)], rfl⟩
    · refine pm_J.run [16] 40 (fun K hK => br_f (nI_ge h2 (by omega)) (hK _ ?_))
      have e : nI (tprod (i + 1)) = nI (tprod i) * (nI 2 * nI i - nI 3) := by
        rw [pk_mul, pk_sub (by omega), pk_mul, tprod, if_neg (by omega)]
      rw [e, ← nI_add i 1] at ih
      exact ih
  · have h3 : ¬ 3 ≤ T.1 := fun z => h ((nI_leI (a := 3) (b := T.1) (by omega) (by omega)).mpr z)
    refine pm_J.run [16] 20 (fun K hK => hK _ ?_)
    refine pm_J.run [] 40 (fun K hK => br_t (nI_le (a := T.1) (b := 3) (by omega) (by omega)) (hK _ ?_))
    exact pm_J.ri ⟨by rw [tcount, if_pos (by omega)]; rfl, rfl⟩
theorem d_trees (hs : l.stackTraces = false) (A : mA) (P : mP) (T : mT) (F : mF) (G : mG) (S : mS) (W : mW) (th : Nat) (hk : T.1 ≤ 7) : pm_Met l mX6_trees 2 0 0 [.ref 0] (moW A P T F G S W th) (isI (nI (tcount T.1)) (moW A P T F G S W 0)) := by
  refine pm_Met.mk kX6_trees hs (pm_J.run [] 20 (fun K hK => hK _ ?_))
  refine pm_J.ciw q15 (moW A P T F G S W 0) (d_many hs A P T F G S W 0 hk) gRX6_106 vX6_many ?_
  exact pm_J.ri ⟨rfl, rfl⟩
theorem d_isTree (hs : l.stackTraces = false) (A : mA) (P : mP) (T : mT) (F : mF) (G : mG) (S : mS) (W : mW) (th : Nat) (x : Int32) (hk : T.1 ≤ 7) : pm_Met l mX6_isTree 2 0 0 [.ref 0, .int x] (moW A P T F G S W th) (isI (if 0 ≤ x ∧ x < nI (tcount T.1) then nI 1 else nI 0) (moW A P T F G S W th)) := by
  refine pm_Met.mk kX6_isTree hs (pm_J.run [16] 20 (fun K hK => And.intro (fun h => hK _ ?_) (fun h => hK _ ?_)))
  · refine pm_J.run [] 20 (fun K hK => hK _ ?_)
    exact pm_J.ri ⟨by rw [if_neg (fun z => absurd h (Int32.not_lt.mpr z.1))]; rfl, rfl⟩
  · refine pm_J.cI q15 (d_many hs A P T F G S W th hk) gRX6_106 vX6_many ?_
    refine pm_J.run [] 20 (fun K hK => And.intro (fun h2 => hK _ ?_) (fun h2 => hK _ ?_))
    · exact pm_J.ri ⟨by rw [if_neg (fun z => absurd z.2 (Int32.not_lt.mpr h2))]; rfl, rfl⟩
    · exact pm_J.ri ⟨by rw [if_pos ⟨Int32.not_lt.mp h, Int32.not_le.mp h2⟩]; rfl, rfl⟩
theorem d_found (hs : l.stackTraces = false) (A : mA) (P : mP) (T : mT) (F : mF) (G : mG) (S : mS) (W : mW) (th : Nat) : pm_Met l mX6_found 1 0 0 [.ref 0] (moW A P T F G S W th) (isI (nI F.1) (moW A P T F G S W 0)) := by
  refine pm_Met.mk kX6_found hs (pm_J.run [] 20 (fun K hK => hK _ ?_))
  exact pm_J.ri ⟨rfl, rfl⟩
theorem d_best (hs : l.stackTraces = false) (A : mA) (P : mP) (T : mT) (F : mF) (G : mG) (S : mS) (W : mW) (th : Nat) (x : Int32) (hc : F.1 ≤ 945) : pm_Met l mX6_best 1 0 0 [.ref 0, .int x] (moW A P T F G S W th) (fun o w' => (okC F.1 x ∧ o = .inl (some (.int (nI (F.2 x.toNatClampNeg)))) ∧ w' = moW A P T F G S W 0) ∨ (¬ okC F.1 x ∧ o = .inl (some (.int (nI 0))) ∧ w' = moW A P T F G S W 1)) := by
  generalize hO : (fun (o : pm_O) (w' : List pm_E) => (okC F.1 x ∧ o = .inl (some (.int (nI (F.2 x.toNatClampNeg)))) ∧ w' = moW A P T F G S W 0) ∨ (¬ okC F.1 x ∧ o = .inl (some (.int (nI 0))) ∧ w' = moW A P T F G S W 1)) = O
  have bad : ¬ okC F.1 x → pm_J l mX6_best iX6_best 1 0 0 15 O 0 0 (13, [some (.ref 0), some (.int x)], [.ref 0], moW A P T F G S W th) := by
    intro h
    refine pm_J.run [] 40 (fun K hK => br_t (by decide) (hK _ ?_))
    refine pm_J.ri ?_
    rw [← hO]
    exact Or.inr ⟨h, rfl, rfl⟩
  refine pm_Met.mk kX6_best hs (pm_J.run [13] 40 (fun K hK => And.intro (fun q => hK _ ?_) (fun q => And.intro (fun q2 => ?_) (fun q2 => hK _ ?_))))
  · exact bad (fun z => absurd q (Int32.not_lt.mpr z.1))
  · have hx : okC F.1 x := ⟨Int32.not_lt.mp q, q2⟩
    obtain ⟨a, ha, rfl⟩ := ok_nat (by omega) hx
    refine br_f (by decide) (And.intro (vp_in_nI (by omega) (by decide)) (hK _ ?_))
    refine pm_J.ri ?_
    rw [← hO]
    exact Or.inl ⟨hx, rfl, rfl⟩
  · exact bad (fun z => q2 z.2)
end MOD
end
section
section MD2
variable {l : Launch}
/-- what stands at the place, or -1 -/
def hrI (t : Nat → Nat) (n a : Nat) : Int32 := if a < n then nI (t a) else pm_k (-1)
theorem hr_pos {t : Nat → Nat} {n a v : Nat} (ht : Ch t) (hv : v < 65536) : hrI t n a = nI v ↔ hereB t n a v = true := by
  have := ht a
  unfold hrI hereB
  by_cases h : a < n
  · rw [if_pos h, nI_eq (by omega) (by omega), decide_eq_true_iff]
    exact ⟨fun z => ⟨h, z⟩, fun z => z.2⟩
  · rw [if_neg h, decide_eq_true_iff]
    refine ⟨fun z => ?_, fun z => absurd z.1 h⟩
    have h0 : 0 ≤ nI v := Int32.not_lt.mp (nI_pos (by omega))
    rw [← z] at h0
    exact absurd h0 (by decide)
theorem d_here (hs : l.stackTraces = false) (A : mA) (P : mP) (T : mT) (F : mF) (G : mG) (S : mS) (W : mW) (th : Nat) (hn : A.2 ≤ 160) (ha : P.1 ≤ 200) : pm_Met l mX6_here 1 0 0 [.ref 0] (moW A P T F G S W th) (isI (hrI A.1 A.2 P.1) (moW A P T F G S W th)) := by
  refine pm_Met.mk kX6_here hs (pm_J.run [24] 40 (fun K hK => And.intro (fun q => hK _ ?_) (fun q => ?_)))
  · have q' : nI A.2 ≤ nI P.1 := q
    rw [nI_leI (by omega) (by omega)] at q'
    rw [hrI, if_neg (by omega)]
    exact pm_J.ri ⟨rfl, rfl⟩
  · have q' : ¬ nI A.2 ≤ nI P.1 := q
    rw [nI_leI (by omega) (by omega)] at q'
    refine And.intro (vp_in_nI (by omega) (by decide)) (hK _ ?_)
    rw [hrI, if_pos (by omega), nI_clamp (by omega)]
    exact pm_J.ri ⟨rfl, rfl⟩
def wrP (P : mP) : mP := (P.1, if P.2.1 < 0 then nI P.1 else P.2.1, P.2.2)
theorem d_wrong (hs : l.stackTraces = false) (A : mA) (P : mP) (T : mT) (F : mF) (G : mG) (S : mS) (W : mW) (th : Nat) : pm_Met l mX6_wrong 1 0 0 [.ref 0] (moW A P T F G S W th) (isO none (moW A (wrP P) T F G S W th)) := by
  refine pm_Met.mk kX6_wrong hs (pm_J.run [] 40 (fun K hK => And.intro (fun q => hK _ ?_) (fun q => hK _ ?_)))
  · have q' : 0 ≤ P.2.1 := q
    rw [wrP, if_neg (Int32.not_lt.mpr q')]
    exact pm_J.rv ⟨rfl, rfl⟩
  · have q' : ¬ 0 ≤ P.2.1 := q
    rw [wrP, if_pos (Int32.not_le.mp q')]
    exact pm_J.rv ⟨rfl, rfl⟩
def muP (A : mA) (P : mP) (v : Nat) : mP := if hereB A.1 A.2 P.1 v then (P.1 + 1, P.2) else wrP P
theorem d_must (hs : l.stackTraces = false) (A : mA) (P : mP) (T : mT) (F : mF) (G : mG) (S : mS) (W : mW) (th v : Nat) (hn : A.2 ≤ 160) (ht : Ch A.1) (ha : P.1 ≤ 200) (hv : v < 65536) : pm_Met l mX6_must 2 0 0 [.ref 0, .int (nI v)] (moW A P T F G S W th) (isO none (moW A (muP A P v) T F G S W th)) := by
  refine pm_Met.mk kX6_must hs (pm_J.run [] 40 (fun K hK => hK _ ?_))
  refine pm_J.cI q15 (d_here hs A P T F G S W th hn ha) gRX6_67 vX6_here ?_
  refine pm_J.run [] 40 (fun K hK => And.intro (fun q => hK _ ?_) (fun q => hK _ ?_))
  · have q' : ¬ hrI A.1 A.2 P.1 = nI v := q
    rw [hr_pos ht hv] at q'
    rw [muP, if_neg q']
    refine pm_J.cv q15 (moW A (wrP P) T F G S W th) (d_wrong hs A P T F G S W th) gRX6_71 vX6_wrong ?_
    exact pm_J.rv ⟨rfl, rfl⟩
  · have q' : ¬ ¬ hrI A.1 A.2 P.1 = nI v := q
    rw [hr_pos ht hv] at q'
    rw [muP, if_pos (Classical.not_not.mp q')]
    refine pm_J.rv ⟨rfl, ?_⟩
    unfold moW
    dsimp only
    rw [← nI_add P.1 1]
    rfl
theorem d_isState (hs : l.stackTraces = false) (x : Int32) : pm_Met l mX6_isState 1 0 0 [.int x] [] (isI (if nI 48 ≤ x ∧ x ≤ nI 51 then nI 1 else nI 0) []) := by
  refine pm_Met.mk kX6_isState hs (pm_J.run [] 20 (fun K hK => And.intro (fun h => hK _ ?_) (fun h => And.intro (fun h2 => hK _ ?_) (fun h2 => hK _ ?_))))
  · exact pm_J.ri ⟨by rw [if_neg (fun z => absurd h (Int32.not_lt.mpr z.1))]; rfl, rfl⟩
  · exact pm_J.ri ⟨by rw [if_neg (fun z => absurd h2 (Int32.not_lt.mpr z.2))]; rfl, rfl⟩
  · exact pm_J.ri ⟨by rw [if_pos ⟨Int32.not_lt.mp h, Int32.not_lt.mp h2⟩]; rfl, rfl⟩
/-- a state stands here, or none -/
theorem hr_state {t : Nat → Nat} {n a : Nat} (ht : Ch t) (h : nI 48 ≤ hrI t n a ∧ hrI t n a ≤ nI 51) : ∃ s, s < 4 ∧ hereB t n a (48 + s) = true := by
  have hta := ht a
  unfold hrI at h
  unfold hereB
  by_cases q : a < n
  · rw [if_pos q, nI_leI (by decide) (by omega), nI_leI (by omega) (by decide)] at h
    exact ⟨t a - 48, by omega, decide_eq_true ⟨q, by omega⟩⟩
  · rw [if_neg q] at h
    exact absurd h.1 (by decide)
theorem hr_stateN {t : Nat → Nat} {n a s : Nat} (ht : Ch t) (hs : s < 4) (h : hereB t n a (48 + s) = true) : nI 48 ≤ hrI t n a ∧ hrI t n a ≤ nI 51 := by
  rw [(hr_pos ht (by omega)).mpr h]
  exact ⟨(nI_leI (by decide) (by omega)).mpr (by omega), (nI_leI (by omega) (by decide)).mpr (by omega)⟩
theorem here_uniq {t : Nat → Nat} {n a v u : Nat} (h : hereB t n a v = true) (hu : hereB t n a u = true) : v = u := by
  have h1 := (of_decide_eq_true h).2
  have h2 := (of_decide_eq_true hu).2
  omega
theorem rsS_skip {t : Nat → Nat} {n lm a0 i : Nat} : ∀ j, (∀ k, i ≤ k → k < i + j → hereB t n (rsS t n lm a0 i).2.2 (48 + k) = false) → rsS t n lm a0 (i + j) = rsS t n lm a0 i
  | 0, _ => rfl
  | j + 1, h => by
    have ih := rsS_skip (t := t) (n := n) (lm := lm) (a0 := a0) (i := i) j (fun k h1 h2 => h k h1 (by omega))
    rw [← Nat.add_assoc, rsS, ih, if_neg (fun z => ?_)]
    rw [h (i + j) (by omega) (by omega)] at z
    cases z.2
theorem rs1_yes {t : Nat → Nat} {n a s : Nat} (hs : s < 4) (h : hereB t n a (48 + s) = true) : rsS t n 1 a 4 = (2 ^ s, 1, a + 1) := by
  have e0 : rsS t n 1 a (0 + s) = (0, 0, a) := rsS_skip (i := 0) s (fun k h1 h2 => by
    cases q : hereB t n (rsS t n 1 a 0).2.2 (48 + k) with
    | false => rfl
    | true => have := here_uniq h q; omega)
  rw [Nat.zero_add] at e0
  have e1 : rsS t n 1 a (s + 1) = (2 ^ s, 1, a + 1) := by
    rw [rsS, e0, if_pos ⟨Nat.zero_lt_one, h⟩]
    simp
  have e2 := rsS_stop (t := t) (n := n) (lm := 1) (a0 := a) (i := s + 1) (by rw [e1]; exact Nat.lt_irrefl 1) (3 - s)
  rw [show s + 1 + (3 - s) = 4 by omega, e1] at e2
  exact e2
theorem rs1_no {t : Nat → Nat} {n a : Nat} (h : ∀ s, s < 4 → hereB t n a (48 + s) = false) : rsS t n 1 a 4 = (0, 0, a) :=
  rsS_skip (i := 0) 4 (fun k h1 h2 => h k (by omega))
/-- what entry() leaves -/
abbrev enO (A : mA) (P : mP) (T : mT) (F : mF) (G : mG) (S : mS) (W : mW) (th : Nat) : pm_O → List pm_E → Prop := fun o w' =>
  (¬ (enF A.1 A.2 P.1).1 = 0 ∧ o = .inl (some (.int (nI (enF A.1 A.2 P.1).1))) ∧ w' = moW A ((enF A.1 A.2 P.1).2, pm_k (-1), P.2.2) T F G S W th) ∨
  ((enF A.1 A.2 P.1).1 = 0 ∧ ∃ v pl, pl ≤ 200 ∧ o = .inl (some (.int (nI v))) ∧ w' = moW A (pl, nI (enF A.1 A.2 P.1).2, P.2.2) T F G S W th)
theorem d_entry (hs : l.stackTraces = false) (A : mA) (P : mP) (T : mT) (F : mF) (G : mG) (S : mS) (W : mW) (th : Nat) (hn : A.2 ≤ 160) (ht : Ch A.1) (ha : P.1 ≤ A.2) (hf : P.2.1 = pm_k (-1)) : pm_Met l mX6_entry 3 0 0 [.ref 0] (moW A P T F G S W th) (enO A P T F G S W th) := by
  obtain ⟨a, f, R⟩ := P
  dsimp only at ha hf
  subst hf
  obtain ⟨t, n⟩ := A
  dsimp only at hn ht ha
  generalize hO : enO (t, n) (a, pm_k (-1), R) T F G S W th = O
  refine pm_Met.mk kX6_entry hs (pm_J.run [] 40 (fun K hK => hK _ ?_))
  refine pm_J.cI q15 (d_here hs (t, n) (a, pm_k (-1), R) T F G S W th hn (by show a ≤ 200; omega)) gRX6_67 vX6_here ?_
  refine pm_J.run [] 40 (fun K hK => hK _ ?_)
  refine pm_J.cis (d_isState hs (hrI t n a)) gRX6_74 vX6_isState ?_
  by_cases hst : nI 48 ≤ hrI t n a ∧ hrI t n a ≤ nI 51
  · rw [if_pos hst]
    obtain ⟨s, hs4, hh⟩ := hr_state ht hst
    refine pm_J.run [] 40 (fun K hK => br_f (by decide) (hK _ ?_))
    have e : enF t n a = (2 ^ s, a + 1) := by
      have n1 : hereB t n a 63 = false := by
        cases q : hereB t n a 63 with
        | false => rfl
        | true => have := here_uniq hh q; omega
      have n2 : hereB t n a 123 = false := by
        cases q : hereB t n a 123 with
        | false => rfl
        | true => have := here_uniq hh q; omega
      rw [enF, n1, if_neg Bool.false_ne_true, n2, if_neg Bool.false_ne_true, rs1_yes hs4 hh]
    refine pm_J.ri ?_
    rw [← hO]
    have hp : 2 ^ s ≠ 0 := Nat.ne_of_gt (Nat.two_pow_pos s)
    refine Or.inl ⟨by show ¬ (enF t n a).1 = 0; rw [e]; exact hp, ?_, ?_⟩
    · show _ = Sum.inl (some (Value.int (nI (enF t n a).1)))
      rw [e, ← nI_shl1 (by omega : s < 30)]
      have e2 : nI s = hrI t n a - nI 48 := by rw [(hr_pos ht (by omega)).mpr hh, pk_sub (by omega)]; congr 1; omega
      rw [e2]
      rfl
    · show _ = moW (t, n) ((enF t n a).2, pm_k (-1), R) T F G S W th
      rw [e]
      unfold moW
      dsimp only
      rw [← nI_add a 1]
      rfl
  · rw [if_neg hst]
    have hno : ∀ s, s < 4 → hereB t n a (48 + s) = false := fun s h4 => by
      cases q : hereB t n a (48 + s) with
      | false => rfl
      | true => exact absurd (hr_stateN ht h4 q) hst
    refine pm_J.run [60] 40 (fun K hK => br_t (by decide) (And.intro (fun q => And.intro (fun q2 => hK _ ?_) (fun q2 => hK _ ?_)) (fun q => hK _ ?_)))
    · have q' : ¬ hrI t n a = nI 63 := q
      have q2' : hrI t n a = nI 123 := q2
      rw [hr_pos ht (by decide)] at q' q2'
      have n1 : hereB t n a 63 = false := by
        cases z : hereB t n a 63 with
        | false => rfl
        | true => exact absurd z q'
      have hlt := here_lt q2'
      have e : enF t n a = (if (rsS t n 4 (a + 1) 4).1 = 0 then (0, (rsS t n 4 (a + 1) 4).2.2) else if hereB t n (rsS t n 4 (a + 1) 4).2.2 125 then ((rsS t n 4 (a + 1) 4).1, (rsS t n 4 (a + 1) 4).2.2 + 1) else (0, (rsS t n 4 (a + 1) 4).2.2)) := by rw [enF, n1, if_neg Bool.false_ne_true, q2', if_pos rfl]
      generalize hE : enF t n a = en at hO e
      have hO2 : O = fun (o : pm_O) (w' : List pm_E) => (¬ en.1 = 0 ∧ o = .inl (some (.int (nI en.1))) ∧ w' = moW (t, n) (en.2, pm_k (-1), R) T F G S W th) ∨
          (en.1 = 0 ∧ ∃ v pl, pl ≤ 200 ∧ o = .inl (some (.int (nI v))) ∧ w' = moW (t, n) (pl, nI en.2, R) T F G S W th) := by
        rw [← hO, ← hE]
      -- at fault
      have bad : ∀ i x3, i ≤ 4 → rsS t n 4 (a + 1) 4 = rsS t n 4 (a + 1) i → ((rsS t n 4 (a + 1) i).1 = 0 ∨ hereB t n (rsS t n 4 (a + 1) i).2.2 125 = false) →
          pm_J l mX6_entry iX6_entry 3 0 0 15 O 0 0 (75, [some (.ref 0), some (.int (hrI t n a)), some (.int (nI (rsS t n 4 (a + 1) i).1)), x3], [], moW (t, n) ((rsS t n 4 (a + 1) i).2.2, nI (rsS t n 4 (a + 1) i).2.2, R) T F G S W th) := by
        intro i x3 hi he hq
        obtain ⟨h1, h2, h3⟩ := rsS_ok (t := t) (n := n) (lm := 4) (a0 := a + 1) (by omega) i hi
        have e2 : en = (0, (rsS t n 4 (a + 1) i).2.2) := by
          rw [e, he]
          rcases hq with g | g
          · rw [if_pos g]
          · rw [g, if_neg Bool.false_ne_true]
            split <;> rfl
        rw [e2] at hO2
        clear e e2 he hO
        generalize rsS t n 4 (a + 1) i = z at h1 h2 h3 hq hO2 ⊢
        obtain ⟨z1, z2, z3⟩ := z
        dsimp only at h1 h2 h3 hq hO2 ⊢
        refine pm_J.run [147] 40 (fun K hK => br_t (Int32.not_lt.mp (nI_pos (by omega))) (hK _ ?_))
        refine pm_J.run [] 40 (fun K hK => hK _ ?_)
        refine pm_J.cv q15 (moW (t, n) (muP (t, n) (z3, nI z3, R) 125) T F G S W th) (d_must hs (t, n) (z3, nI z3, R) T F G S W th 125 hn ht (by show z3 ≤ 200; omega) (by decide)) gRX6_78 vX6_must ?_
        refine pm_J.run [] 40 (fun K hK => hK _ ?_)
        refine pm_J.ri ?_
        rw [hO2]
        refine Or.inr ⟨rfl, z1, (muP (t, n) (z3, nI z3, R) 125).1, ?_, rfl, ?_⟩
        · unfold muP wrP
          split
          · show z3 + 1 ≤ 200; omega
          · show z3 ≤ 200; omega
        · have : muP (t, n) (z3, nI z3, R) 125 = ((muP (t, n) (z3, nI z3, R) 125).1, nI z3, R) := by
            unfold muP wrP
            split
            · rfl
            · show (z3, (if nI z3 < 0 then nI z3 else nI z3), R) = _
              rw [if_neg (nI_pos (by omega))]
          rw [← this]
      have loop : ∀ d i, i + d = 4 → pm_J l mX6_entry iX6_entry 3 0 0 15 O 0 0 (75, [some (.ref 0), some (.int (hrI t n a)), some (.int (nI (rsS t n 4 (a + 1) i).1)), some (.int (nI (47 + i)))], [], moW (t, n) ((rsS t n 4 (a + 1) i).2.2, pm_k (-1), R) T F G S W th) := by
        intro d
        induction d using Nat.strongRecOn with
        | _ d ih =>
        intro i hi
        obtain ⟨h1, h2, h3⟩ := rsS_ok (t := t) (n := n) (lm := 4) (a0 := a + 1) (by omega) i (by omega)
        have hp : 2 ^ i ≤ 2 ^ 4 := Nat.pow_le_pow_right (by decide) (by omega)
        have hM := d_here hs (t, n) ((rsS t n 4 (a + 1) i).2.2, pm_k (-1), R) T F G S W th hn (by show (rsS t n 4 (a + 1) i).2.2 ≤ 200; omega)
        refine pm_J.run [] 40 (fun K hK => br_f (show ¬ (0 : Int32) ≤ pm_k (-1) by decide) (hK _ ?_))
        refine pm_J.cI q15 hM gRX6_67 vX6_here ?_
        -- no end here
        have go : ¬ (hereB t n (rsS t n 4 (a + 1) i).2.2 125 = true ∧ ¬ (rsS t n 4 (a + 1) i).1 = 0) → pm_J l mX6_entry iX6_entry 3 0 0 15 O 0 0 (95, [some (.ref 0), some (.int (hrI t n a)), some (.int (nI (rsS t n 4 (a + 1) i).1)), some (.int (nI (47 + i)))], [], moW (t, n) ((rsS t n 4 (a + 1) i).2.2, pm_k (-1), R) T F G S W th) := by
          intro hq
          have hq' : (rsS t n 4 (a + 1) i).1 = 0 ∨ hereB t n (rsS t n 4 (a + 1) i).2.2 125 = false := by
            by_cases g : (rsS t n 4 (a + 1) i).1 = 0
            · exact Or.inl g
            · cases g2 : hereB t n (rsS t n 4 (a + 1) i).2.2 125 with
              | false => exact Or.inr rfl
              | true => exact absurd ⟨g2, g⟩ hq
          have stuck : (∀ k, i ≤ k → k < 4 → hereB t n (rsS t n 4 (a + 1) i).2.2 (48 + k) = false) → pm_J l mX6_entry iX6_entry 3 0 0 15 O 0 0 (113, [some (.ref 0), some (.int (hrI t n a)), some (.int (nI (rsS t n 4 (a + 1) i).1)), some (.int (nI (47 + i)))], [], moW (t, n) ((rsS t n 4 (a + 1) i).2.2, pm_k (-1), R) T F G S W th) := by
            intro hk
            have he := rsS_skip (t := t) (n := n) (lm := 4) (a0 := a + 1) (i := i) (4 - i) (fun k g1 g2 => hk k g1 (by omega))
            rw [show i + (4 - i) = 4 by omega] at he
            refine pm_J.run [] 40 (fun K hK => hK _ ?_)
            refine pm_J.cv q15 (moW (t, n) ((rsS t n 4 (a + 1) i).2.2, nI (rsS t n 4 (a + 1) i).2.2, R) T F G S W th) (d_wrong hs (t, n) ((rsS t n 4 (a + 1) i).2.2, pm_k (-1), R) T F G S W th) gRX6_71 vX6_wrong ?_
            refine pm_J.run [75] 40 (fun K hK => hK _ ?_)
            exact bad i _ (by omega) he hq'
          refine pm_J.run [] 40 (fun K hK => hK _ ?_)
          refine pm_J.cI q15 hM gRX6_67 vX6_here ?_
          refine pm_J.cis (d_isState hs (hrI t n (rsS t n 4 (a + 1) i).2.2)) gRX6_74 vX6_isState ?_
          by_cases hst2 : nI 48 ≤ hrI t n (rsS t n 4 (a + 1) i).2.2 ∧ hrI t n (rsS t n 4 (a + 1) i).2.2 ≤ nI 51
          · rw [if_pos hst2]
            obtain ⟨s, hs4, hh⟩ := hr_state ht hst2
            have hv := (hr_pos (n := n) (a := (rsS t n 4 (a + 1) i).2.2) ht (by omega)).mpr hh
            refine pm_J.run [113] 40 (fun K hK => br_f (by decide) (hK _ ?_))
            refine pm_J.cI q15 hM gRX6_67 vX6_here ?_
            refine pm_J.run [113, 120] 40 (fun K hK => And.intro (fun q => hK _ ?_) (fun q => hK _ ?_))
            · have q3 : nI (47 + i) < hrI t n (rsS t n 4 (a + 1) i).2.2 := q
              rw [hv, nI_ltI (by omega) (by omega)] at q3
              have he := rsS_skip (t := t) (n := n) (lm := 4) (a0 := a + 1) (i := i) (s - i) (fun k g1 g2 => by
                cases z : hereB t n (rsS t n 4 (a + 1) i).2.2 (48 + k) with
                | false => rfl
                | true => have := here_uniq hh z; omega)
              rw [show i + (s - i) = s by omega] at he
              have hns : rsS t n 4 (a + 1) (s + 1) = ((rsS t n 4 (a + 1) i).1 ||| 2 ^ s, (rsS t n 4 (a + 1) i).2.1 + 1, (rsS t n 4 (a + 1) i).2.2 + 1) := by
                rw [rsS, he, if_pos ⟨by omega, hh⟩]
              have nx := ih (3 - s) (by omega) (s + 1) (by omega)
              refine pm_J.run [] 40 (fun K hK => hK _ ?_)
              refine pm_J.cI q15 hM gRX6_67 vX6_here ?_
              refine pm_J.run [75] 60 (fun K hK => hK _ ?_)
              rw [hns] at nx
              dsimp only at nx
              have e2 : nI s = nI (48 + s) - nI 48 := by rw [pk_sub (by omega)]; congr 1; omega
              rw [← nx_or, ← nI_shl1 (by omega : s < 30), show 47 + (s + 1) = 48 + s by omega, e2] at nx
              unfold moW at nx
              dsimp only at nx
              rw [← nI_add (rsS t n 4 (a + 1) i).2.2 1] at nx
              rw [hv]
              exact nx
            · have q3 : ¬ nI (47 + i) < hrI t n (rsS t n 4 (a + 1) i).2.2 := q
              rw [hv, nI_ltI (by omega) (by omega)] at q3
              exact stuck (fun k g1 g2 => by
                cases z : hereB t n (rsS t n 4 (a + 1) i).2.2 (48 + k) with
                | false => rfl
                | true => have := here_uniq hh z; omega)
          · rw [if_neg hst2]
            refine pm_J.run [113] 40 (fun K hK => br_t (by decide) (hK _ ?_))
            exact stuck (fun k g1 g2 => by
              cases z : hereB t n (rsS t n 4 (a + 1) i).2.2 (48 + k) with
              | false => rfl
              | true => exact absurd (hr_stateN ht g2 z) hst2)
        refine pm_J.run [95, 147] 40 (fun K hK => And.intro (fun q => hK _ ?_) (fun q => And.intro (fun q2 => hK _ ?_) (fun q2 => hK _ ?_)))
        · have q3 : ¬ hrI t n (rsS t n 4 (a + 1) i).2.2 = nI 125 := q
          rw [hr_pos ht (by decide)] at q3
          exact go (fun z => q3 z.1)
        · have q3 : ¬ ¬ hrI t n (rsS t n 4 (a + 1) i).2.2 = nI 125 := q
          have q4 : ¬ nI (rsS t n 4 (a + 1) i).1 = 0 := q2
          rw [hr_pos ht (by decide)] at q3
          rw [nI_z (by omega)] at q4
          have hh := Classical.not_not.mp q3
          have he := rsS_skip (t := t) (n := n) (lm := 4) (a0 := a + 1) (i := i) (4 - i) (fun k g1 g2 => by
            cases z : hereB t n (rsS t n 4 (a + 1) i).2.2 (48 + k) with
            | false => rfl
            | true => have := here_uniq hh z; omega)
          rw [show i + (4 - i) = 4 by omega] at he
          have e2 : en = ((rsS t n 4 (a + 1) i).1, (rsS t n 4 (a + 1) i).2.2 + 1) := by
            rw [e, he, if_neg q4, if_pos hh]
          rw [e2] at hO2
          refine pm_J.run [] 40 (fun K hK => hK _ ?_)
          refine pm_J.cv q15 (moW (t, n) ((rsS t n 4 (a + 1) i).2.2 + 1, pm_k (-1), R) T F G S W th) (by
            have := d_must hs (t, n) ((rsS t n 4 (a + 1) i).2.2, pm_k (-1), R) T F G S W th 125 hn ht (by show (rsS t n 4 (a + 1) i).2.2 ≤ 200; omega) (by decide)
            rw [muP, if_pos hh] at this
            exact this) gRX6_78 vX6_must ?_
          refine pm_J.run [] 40 (fun K hK => hK _ ?_)
          refine pm_J.ri ?_
          rw [hO2]
          exact Or.inl ⟨q4, rfl, rfl⟩
        · have q4 : ¬ ¬ nI (rsS t n 4 (a + 1) i).1 = 0 := q2
          rw [nI_z (by omega)] at q4
          exact go (fun z => q4 z.2)
      refine pm_J.run [75] 60 (fun K hK => hK _ ?_)
      have st := loop 4 0 rfl
      unfold moW at st
      dsimp only [rsS] at st
      rw [← nI_add a 1] at st
      exact st
    · have q' : ¬ hrI t n a = nI 63 := q
      have q2' : ¬ hrI t n a = nI 123 := q2
      rw [hr_pos ht (by decide)] at q' q2'
      have e : enF t n a = (0, a) := by rw [enF, if_neg q', if_neg q2', rs1_no hno]
      refine pm_J.cv q15 (moW (t, n) (a, nI a, R) T F G S W th) (d_wrong hs (t, n) (a, pm_k (-1), R) T F G S W th) gRX6_71 vX6_wrong ?_
      refine pm_J.run [] 40 (fun K hK => hK _ ?_)
      refine pm_J.ri ?_
      rw [← hO]
      refine Or.inr ⟨by show (enF t n a).1 = 0; rw [e], 0, a, by omega, rfl, ?_⟩
      show _ = moW (t, n) (a, nI (enF t n a).2, R) T F G S W th
      rw [e]
    · have q' : ¬ ¬ hrI t n a = nI 63 := q
      rw [hr_pos ht (by decide)] at q'
      have e : enF t n a = (15, a + 1) := by rw [enF, if_pos (Classical.not_not.mp q')]
      refine pm_J.ri ?_
      rw [← hO]
      refine Or.inl ⟨by show ¬ (enF t n a).1 = 0; rw [e]; exact (by decide : ¬ 15 = 0), ?_, ?_⟩
      · show _ = Sum.inl (some (Value.int (nI (enF t n a).1)))
        rw [e]
        rfl
      · show _ = moW (t, n) ((enF t n a).2, pm_k (-1), R) T F G S W th
        rw [e]
        unfold moW
        dsimp only
        rw [← nI_add a 1]
        rfl
end MD2
end
section
section MD3
variable {l : Launch}
def rwL2 (t : Nat → Nat) (n kd : Nat) : Nat → Nat → Nat → (Nat → Nat) → Bool × Nat × Nat × (Nat → Nat)
  | 0, e, a, r => (true, e, a, r)
  | f + 1, e, a, r => if (kd = 0 ∧ 0 < e) ∧ hereB t n a 59 = true then (true, e, a, r) else
    if (enF t n a).1 = 0 then (false, e, (enF t n a).2, r) else rwL2 t n kd f (e + 1) (enF t n a).2 (upN r (16 * kd + e) (enF t n a).1)
theorem rwL2_s (t : Nat → Nat) (n kd f e a : Nat) (r : Nat → Nat) : rwL2 t n kd (f + 1) e a r = if (kd = 0 ∧ 0 < e) ∧ hereB t n a 59 = true then (true, e, a, r) else
    if (enF t n a).1 = 0 then (false, e, (enF t n a).2, r) else rwL2 t n kd f (e + 1) (enF t n a).2 (upN r (16 * kd + e) (enF t n a).1) := rfl
def rwF2 (t : Nat → Nat) (n kd a : Nat) (r : Nat → Nat) (c : Nat) : Bool × Nat × (Nat → Nat) × Nat :=
  if hereB t n a (97 + kd) = false then (false, a, r, c) else
  if hereB t n (a + 1) 32 = false then (false, a + 1, r, c) else
  if (rwL2 t n kd (if kd = 0 then 16 else c) 0 (a + 2) r).1 = true then
    (hereB t n (rwL2 t n kd (if kd = 0 then 16 else c) 0 (a + 2) r).2.2.1 59, tkF t n (rwL2 t n kd (if kd = 0 then 16 else c) 0 (a + 2) r).2.2.1 59, (rwL2 t n kd (if kd = 0 then 16 else c) 0 (a + 2) r).2.2.2, (rwL2 t n kd (if kd = 0 then 16 else c) 0 (a + 2) r).2.1)
  else (false, (rwL2 t n kd (if kd = 0 then 16 else c) 0 (a + 2) r).2.2.1, (rwL2 t n kd (if kd = 0 then 16 else c) 0 (a + 2) r).2.2.2, c)
/-- what row() leaves -/
abbrev roO (A : mA) (kd : Nat) (z : Bool × Nat × (Nat → Nat) × Nat) (T : mT) (F : mF) (G : mG) (S : mS) (W : mW) (th : Nat) : pm_O → List pm_E → Prop := fun o w' =>
  (z.1 = true ∧ o = .inl none ∧ w' = moW A (z.2.1, pm_k (-1), kd + 1, z.2.2.2, z.2.2.1) T F G S W th) ∨
  (z.1 = false ∧ ∃ P' : mP, P'.2.1 = nI z.2.1 ∧ o = .inl none ∧ w' = moW A P' T F G S W th)
theorem d_row7 (hs : l.stackTraces = false) (A : mA) (a c : Nat) (fr : Nat → Nat) (T : mT) (F : mF) (G : mG) (S : mS) (W : mW) (th : Nat) : pm_Met l mX6_row 4 0 0 [.ref 0] (moW A (a, pm_k (-1), 7, c, fr) T F G S W th) (isO none (moW A (a, nI a, 7, c, fr) T F G S W th)) := by
  refine pm_Met.mk kX6_row hs (pm_J.run [] 40 (fun K hK => br_f (show ¬ ¬ nI 7 = pm_k 7 by decide) (hK _ ?_)))
  refine pm_J.cv q15 (moW A (a, nI a, 7, c, fr) T F G S W th) (d_wrong hs A (a, pm_k (-1), 7, c, fr) T F G S W th) gRX6_71 vX6_wrong ?_
  exact pm_J.rv ⟨rfl, rfl⟩
set_option maxHeartbeats 2000000 in
theorem d_row (hs : l.stackTraces = false) (t : Nat → Nat) (n a kd c : Nat) (fr : Nat → Nat) (T : mT) (F : mF) (G : mG) (S : mS) (W : mW) (th : Nat) (hn : n ≤ 160) (ht : Ch t) (ha : a ≤ n) (hkd : kd < 7) (hc : c ≤ 16) :
    pm_Met l mX6_row 4 0 0 [.ref 0] (moW (t, n) (a, pm_k (-1), kd, c, fr) T F G S W th) (roO (t, n) kd (rwF2 t n kd a fr c) T F G S W th) := by
  generalize hO : roO (t, n) kd (rwF2 t n kd a fr c) T F G S W th = O
  -- at fault
  have out : ∀ (P' : mP) (x : Nat) x1, x ≤ 200 → P'.2.1 = nI x → (rwF2 t n kd a fr c).1 = false → (rwF2 t n kd a fr c).2.1 = x → pm_J l mX6_row iX6_row 4 0 0 15 O 0 0 (40, [some (.ref 0), x1], [], moW (t, n) P' T F G S W th) := by
    intro P' x x1 hx hP h1 h2
    have h0 : (0 : Int32) ≤ P'.2.1 := by rw [hP]; exact Int32.not_lt.mp (nI_pos (by omega))
    refine pm_J.run [] 40 (fun K hK => br_t h0 (br_t h0 (hK _ ?_)))
    refine pm_J.rv ?_
    rw [← hO]
    exact Or.inr ⟨h1, P', by rw [h2]; exact hP, rfl, rfl⟩
  refine pm_Met.mk kX6_row hs (pm_J.run [] 40 (fun K hK => br_t (show ¬ nI kd = nI 7 by rw [nI_e128 (by omega) (by decide)]; omega) (hK _ ?_)))
  rw [show pm_k 97 + nI kd = nI (97 + kd) from nI_add 97 kd]
  have hM1 := d_must hs (t, n) (a, pm_k (-1), kd, c, fr) T F G S W th (97 + kd) hn ht (by show a ≤ 200; omega) (by omega)
  cases hm : hereB t n a (97 + kd) with
  | false =>
    have e : rwF2 t n kd a fr c = (false, a, fr, c) := by rw [rwF2, if_pos hm]
    rw [muP, if_neg (by show ¬ hereB t n a (97 + kd) = true; rw [hm]; exact Bool.false_ne_true)] at hM1
    refine pm_J.cv q15 (moW (t, n) (a, nI a, kd, c, fr) T F G S W th) hM1 gRX6_78 vX6_must ?_
    refine pm_J.run [40] 40 (fun K hK => br_t (show (0 : Int32) ≤ nI a from Int32.not_lt.mp (nI_pos (by omega))) (hK _ ?_))
    exact out _ a _ (by omega) rfl (by rw [e]) (by rw [e])
  | true =>
    have hlt := here_lt hm
    rw [muP, if_pos hm] at hM1
    refine pm_J.cv q15 (moW (t, n) (a + 1, pm_k (-1), kd, c, fr) T F G S W th) hM1 gRX6_78 vX6_must ?_
    refine pm_J.run [] 40 (fun K hK => br_f (show ¬ (0 : Int32) ≤ pm_k (-1) by decide) (hK _ ?_))
    have hM2 := d_must hs (t, n) (a + 1, pm_k (-1), kd, c, fr) T F G S W th 32 hn ht (by show a + 1 ≤ 200; omega) (by omega)
    cases hm2 : hereB t n (a + 1) 32 with
    | false =>
      have e : rwF2 t n kd a fr c = (false, a + 1, fr, c) := by rw [rwF2, if_neg (by rw [hm]; decide), if_pos hm2]
      rw [muP, if_neg (by show ¬ hereB t n (a + 1) 32 = true; rw [hm2]; exact Bool.false_ne_true)] at hM2
      refine pm_J.cv q15 (moW (t, n) (a + 1, nI (a + 1), kd, c, fr) T F G S W th) hM2 gRX6_78 vX6_must ?_
      refine pm_J.run [40] 40 (fun K hK => hK _ ?_)
      exact out _ (a + 1) _ (by omega) rfl (by rw [e]) (by rw [e])
    | true =>
      have hlt2 := here_lt hm2
      rw [muP, if_pos hm2] at hM2
      refine pm_J.cv q15 (moW (t, n) (a + 2, pm_k (-1), kd, c, fr) T F G S W th) hM2 gRX6_78 vX6_must ?_
      have e0 : rwF2 t n kd a fr c = if (rwL2 t n kd (if kd = 0 then 16 else c) 0 (a + 2) fr).1 = true then
          (hereB t n (rwL2 t n kd (if kd = 0 then 16 else c) 0 (a + 2) fr).2.2.1 59, tkF t n (rwL2 t n kd (if kd = 0 then 16 else c) 0 (a + 2) fr).2.2.1 59, (rwL2 t n kd (if kd = 0 then 16 else c) 0 (a + 2) fr).2.2.2, (rwL2 t n kd (if kd = 0 then 16 else c) 0 (a + 2) fr).2.1)
        else (false, (rwL2 t n kd (if kd = 0 then 16 else c) 0 (a + 2) fr).2.2.1, (rwL2 t n kd (if kd = 0 then 16 else c) 0 (a + 2) fr).2.2.2, c) := by rw [rwF2, if_neg (by rw [hm]; decide), if_neg (by rw [hm2]; decide)]
      generalize hmo : (if kd = 0 then 16 else c) = mo at e0
      have hmo16 : mo ≤ 16 := by rw [← hmo]; split <;> omega
      -- the row's end
      have fin : ∀ e a' r', e ≤ 16 → a' ≤ n → hereB t n a' 59 = true → rwL2 t n kd mo 0 (a + 2) fr = (true, e, a', r') → pm_J l mX6_row iX6_row 4 0 0 15 O 0 0 (126, [some (.ref 0), some (.int (nI e))], [], moW (t, n) (a', pm_k (-1), kd, c, r') T F G S W th) := by
        intro e a' r' he ha' hh hz
        refine pm_J.run [] 60 (fun K hK => br_f (show ¬ (0 : Int32) ≤ pm_k (-1) by decide) (hK _ ?_))
        refine pm_J.rv ?_
        rw [← hO, e0, hz]
        refine Or.inl ⟨hh, rfl, ?_⟩
        show _ = moW (t, n) (tkF t n a' 59, pm_k (-1), kd + 1, e, r') T F G S W th
        rw [tkF, hh, if_pos rfl]
        unfold moW
        dsimp only
        rw [← nI_add a' 1, ← nI_add kd 1]
        rfl
      have hme : ∀ e, (kd = 0 → 16 = e) → (¬ kd = 0 → c = e) → e = mo := fun e g1 g2 => by
        rw [← hmo]
        split
        · rename_i h; exact (g1 h).symm
        · rename_i h; exact (g2 h).symm
      -- too long
      have long : ∀ e a' r', e = mo → a' ≤ n → hereB t n a' 59 = false → rwL2 t n kd mo 0 (a + 2) fr = (true, e, a', r') → pm_J l mX6_row iX6_row 4 0 0 15 O 0 0 (75, [some (.ref 0), some (.int (nI e))], [], moW (t, n) (a', pm_k (-1), kd, c, r') T F G S W th) := by
        intro e a' r' he ha' hh hz
        have ew : pm_J l mX6_row iX6_row 4 0 0 15 O 0 0 (95, [some (.ref 0), some (.int (nI e))], [], moW (t, n) (a', pm_k (-1), kd, c, r') T F G S W th) := by
          refine pm_J.run [] 40 (fun K hK => hK _ ?_)
          refine pm_J.cv q15 (moW (t, n) (a', nI a', kd, c, r') T F G S W th) (d_wrong hs (t, n) (a', pm_k (-1), kd, c, r') T F G S W th) gRX6_71 vX6_wrong ?_
          refine pm_J.run [40] 40 (fun K hK => hK _ ?_)
          refine out _ a' _ (by omega) rfl ?_ ?_
          · rw [e0, hz, if_pos rfl]; exact hh
          · rw [e0, hz, if_pos rfl]
            show tkF t n a' 59 = a'
            rw [tkF, hh, if_neg Bool.false_ne_true]
        refine pm_J.run [95, 102] 40 (fun K hK => And.intro (fun q => br_f ?_ (hK _ ew)) (fun q => br_f ?_ (hK _ ew)))
        · have q' : ¬ nI kd = 0 := q
          rw [nI_z (by omega)] at q'
          rw [if_neg q'] at hmo
          show ¬ ¬ nI e = nI c
          rw [he, hmo]
          exact fun z => z rfl
        · have q' : ¬ ¬ nI kd = 0 := q
          rw [nI_z (by omega)] at q'
          rw [if_pos (Classical.not_not.mp q')] at hmo
          show ¬ ¬ nI e = nI 16
          rw [he, hmo]
          exact fun z => z rfl
      have loop : ∀ f e a' r', e + f = mo → a' ≤ n → rwL2 t n kd f e a' r' = rwL2 t n kd mo 0 (a + 2) fr → pm_J l mX6_row iX6_row 4 0 0 15 O 0 0 (40, [some (.ref 0), some (.int (nI e))], [], moW (t, n) (a', pm_k (-1), kd, c, r') T F G S W th) := by
        intro f
        induction f with
        | zero =>
          intro e a' r' hef ha' hz
          have hf := fin e a' r' (by omega) ha'
          refine pm_J.run [] 40 (fun K hK => br_f (show ¬ (0 : Int32) ≤ pm_k (-1) by decide) (hK _ ?_))
          refine pm_J.cI q15 (d_here hs (t, n) (a', pm_k (-1), kd, c, r') T F G S W th hn (by show a' ≤ 200; omega)) gRX6_67 vX6_here ?_
          refine pm_J.run [75, 126] 40 (fun K hK => And.intro (fun q => hK _ ?_) (fun q => And.intro (fun q2 => br_t ?_ (hK _ ?_)) (fun q2 => br_t ?_ (hK _ ?_))))
          · have q' : ¬ hrI t n a' = nI 59 := q
            rw [hr_pos ht (by decide)] at q'
            exact long e a' r' (by omega) ha' (Bool.eq_false_iff.mpr q') hz.symm
          · have q' : ¬ nI kd = 0 := q2
            rw [nI_z (by omega)] at q'
            rw [if_neg q'] at hmo
            exact nI_le (a := c) (b := e) (by omega) (by omega)
          · have q' : ¬ ¬ hrI t n a' = nI 59 := q
            rw [hr_pos ht (by decide)] at q'
            exact hf (Classical.not_not.mp q') hz.symm
          · have q' : ¬ ¬ nI kd = 0 := q2
            rw [nI_z (by omega)] at q'
            rw [if_pos (Classical.not_not.mp q')] at hmo
            exact nI_le (a := 1) (b := e) (by omega) (by omega)
          · have q' : ¬ ¬ hrI t n a' = nI 59 := q
            rw [hr_pos ht (by decide)] at q'
            exact hf (Classical.not_not.mp q') hz.symm
        | succ f ih =>
          intro e a' r' hef ha' hz
          rw [rwL2_s] at hz
          obtain ⟨n1, n2⟩ := enF_ok (t := t) ha'
          have ex : pm_k 16 * nI kd + nI e = nI (16 * kd + e) := by
            show nI 16 * nI kd + nI e = _
            rw [pk_mul, nI_add]
          have ent : ¬ ((kd = 0 ∧ 0 < e) ∧ hereB t n a' 59 = true) → pm_J l mX6_row iX6_row 4 0 0 15 O 0 0 (75, [some (.ref 0), some (.int (nI e))], [], moW (t, n) (a', pm_k (-1), kd, c, r') T F G S W th) := by
            intro hq
            rw [if_neg hq] at hz
            have go : pm_J l mX6_row iX6_row 4 0 0 15 O 0 0 (102, [some (.ref 0), some (.int (nI e))], [], moW (t, n) (a', pm_k (-1), kd, c, r') T F G S W th) := by
              refine pm_J.run [] 40 (fun K hK => hK _ ?_)
              rw [ex]
              refine pm_J.cR q15 (d_entry hs (t, n) (a', pm_k (-1), kd, c, r') T F G S W th hn ht ha' rfl) gRX6_88 vX6_entry (fun E w1 h => ?_) (fun v w1 h => ?_)
              · rcases h with ⟨_, h, _⟩ | ⟨_, v, pl, _, h, _⟩ <;> cases h
              · rcases h with ⟨g1, g2, g3⟩ | ⟨g1, v', pl, g4, g2, g3⟩
                · have g1' : ¬ (enF t n a').1 = 0 := g1
                  rw [if_neg g1'] at hz
                  cases g2
                  subst g3
                  show pm_J l mX6_row iX6_row 4 0 0 15 O 0 0 (119, [some (.ref 0), some (.int (nI e))], [.int (nI (enF t n a').1), .int (nI (16 * kd + e)), .ref 4], moW (t, n) ((enF t n a').2, pm_k (-1), kd, c, r') T F G S W th)
                  refine pm_J.run [40] 40 (fun K hK => And.intro (vp_in_nI (by omega) (by decide)) (hK _ ?_))
                  have := ih (e + 1) (enF t n a').2 (upN r' (16 * kd + e) (enF t n a').1) (by omega) n2 hz
                  unfold moW at this
                  dsimp only at this
                  rw [← nA_upd, ← nI_add e 1] at this
                  rw [nI_clamp (by omega)]
                  exact this
                · have g1' : (enF t n a').1 = 0 := g1
                  rw [if_pos g1'] at hz
                  cases g2
                  subst g3
                  show pm_J l mX6_row iX6_row 4 0 0 15 O 0 0 (119, [some (.ref 0), some (.int (nI e))], [.int (nI v'), .int (nI (16 * kd + e)), .ref 4], moW (t, n) (pl, nI (enF t n a').2, kd, c, r') T F G S W th)
                  refine pm_J.run [40] 40 (fun K hK => And.intro (vp_in_nI (by omega) (by decide)) (hK _ ?_))
                  rw [nI_clamp (by omega)]
                  have := out (pl, nI (enF t n a').2, kd, c, upN r' (16 * kd + e) v') (enF t n a').2 (some (.int (nI e + pm_k 1))) (by omega) rfl (by rw [e0, ← hz]; rfl) (by rw [e0, ← hz]; rfl)
                  unfold moW at this
                  dsimp only at this
                  rw [← nA_upd] at this
                  exact this
            refine pm_J.run [102] 40 (fun K hK => And.intro (fun q => br_t ?_ (hK _ go)) (fun q => br_t ?_ (hK _ go)))
            · have q' : ¬ nI kd = 0 := q
              rw [nI_z (by omega)] at q'
              rw [if_neg q'] at hmo
              show ¬ nI e = nI c
              rw [nI_e128 (by omega) (by omega)]
              omega
            · have q' : ¬ ¬ nI kd = 0 := q
              rw [nI_z (by omega)] at q'
              rw [if_pos (Classical.not_not.mp q')] at hmo
              show ¬ nI e = nI 16
              rw [nI_e128 (by omega) (by omega)]
              omega
          refine pm_J.run [] 40 (fun K hK => br_f (show ¬ (0 : Int32) ≤ pm_k (-1) by decide) (hK _ ?_))
          refine pm_J.cI q15 (d_here hs (t, n) (a', pm_k (-1), kd, c, r') T F G S W th hn (by show a' ≤ 200; omega)) gRX6_67 vX6_here ?_
          refine pm_J.run [75, 126] 40 (fun K hK => And.intro (fun q => hK _ ?_) (fun q => And.intro (fun q2 => br_f ?_ (hK _ ?_)) (fun q2 => And.intro (fun q3 => hK _ ?_) (fun q3 => hK _ ?_))))
          · have q' : ¬ hrI t n a' = nI 59 := q
            rw [hr_pos ht (by decide)] at q'
            exact ent (fun z => q' z.2)
          · have q' : ¬ nI kd = 0 := q2
            rw [nI_z (by omega)] at q'
            rw [if_neg q'] at hmo
            exact nI_ge (a := e) (b := c) (by omega) (by omega)
          · have q' : ¬ nI kd = 0 := q2
            rw [nI_z (by omega)] at q'
            exact ent (fun z => q' z.1.1)
          · have q' : ¬ ¬ nI kd = 0 := q2
            have q4 : nI 1 ≤ nI e := q3
            have q5 : ¬ ¬ hrI t n a' = nI 59 := q
            rw [nI_z (by omega)] at q'
            rw [nI_leI (by decide) (by omega)] at q4
            rw [hr_pos ht (by decide)] at q5
            have q6 := Classical.not_not.mp q5
            rw [if_pos ⟨⟨Classical.not_not.mp q', q4⟩, q6⟩] at hz
            exact fin e a' r' (by omega) ha' q6 hz.symm
          · have q4 : ¬ nI 1 ≤ nI e := q3
            rw [nI_leI (by decide) (by omega)] at q4
            exact ent (fun z => q4 z.1.2)
      have start := loop mo 0 (a + 2) fr (by omega) (by omega) rfl
      refine pm_J.run [40] 40 (fun K hK => hK _ ?_)
      exact start
end MD3
end
section
section MD4
variable {l : Launch}
theorem rwL2_ok {t : Nat → Nat} {n kd : Nat} : ∀ (f e a : Nat) (r : Nat → Nat), a ≤ n → (rwL2 t n kd f e a r).2.2.1 ≤ n ∧ (rwL2 t n kd f e a r).2.1 ≤ e + f
  | 0, e, a, r, h => ⟨h, Nat.le_refl _⟩
  | f + 1, e, a, r, h => by
    rw [rwL2_s]
    split
    · exact ⟨h, by show e ≤ e + (f + 1); omega⟩
    · split
      · exact ⟨(enF_ok h).2, by show e ≤ e + (f + 1); omega⟩
      · have := rwL2_ok (t := t) (n := n) (kd := kd) f (e + 1) (enF t n a).2 (upN r (16 * kd + e) (enF t n a).1) (enF_ok h).2
        exact ⟨this.1, by omega⟩
theorem rwF2_ok {t : Nat → Nat} {n kd a : Nat} {r : Nat → Nat} {c : Nat} (ha : a ≤ n) (hc : c ≤ 16) : (rwF2 t n kd a r c).2.1 ≤ n ∧ (rwF2 t n kd a r c).2.2.2 ≤ 16 := by
  unfold rwF2
  split
  · exact ⟨ha, hc⟩
  · rename_i h1
    have h1' : hereB t n a (97 + kd) = true := by
      cases h : hereB t n a (97 + kd) with
      | true => rfl
      | false => exact absurd h h1
    have := here_lt h1'
    split
    · exact ⟨by show a + 1 ≤ n; omega, hc⟩
    · rename_i h2
      have h2' : hereB t n (a + 1) 32 = true := by
        cases h : hereB t n (a + 1) 32 with
        | true => rfl
        | false => exact absurd h h2
      have := here_lt h2'
      have hm : (if kd = 0 then 16 else c) ≤ 16 := by split <;> omega
      have := rwL2_ok (t := t) (n := n) (kd := kd) (if kd = 0 then 16 else c) 0 (a + 2) r (by omega)
      generalize (if kd = 0 then 16 else c) = mo at hm this ⊢
      split
      · exact ⟨tkF_le this.1, by show (rwL2 t n kd mo 0 (a + 2) r).2.1 ≤ 16; omega⟩
      · exact ⟨this.1, hc⟩
def rdF2 (t : Nat → Nat) (n : Nat) : Nat → Nat → Nat → (Nat → Nat) → Nat → Bool × Nat × (Nat → Nat) × Nat × Nat
  | 0, kd, a, r, c => (false, a, r, kd, c)
  | f + 1, kd, a, r, c => if (rwF2 t n kd a r c).1 = false then (false, (rwF2 t n kd a r c).2.1, (rwF2 t n kd a r c).2.2.1, kd, (rwF2 t n kd a r c).2.2.2) else
    if (rwF2 t n kd a r c).2.1 = n then (true, n, (rwF2 t n kd a r c).2.2.1, kd + 1, (rwF2 t n kd a r c).2.2.2) else rdF2 t n f (kd + 1) (rwF2 t n kd a r c).2.1 (rwF2 t n kd a r c).2.2.1 (rwF2 t n kd a r c).2.2.2
theorem rdF2_s (t : Nat → Nat) (n f kd a : Nat) (r : Nat → Nat) (c : Nat) : rdF2 t n (f + 1) kd a r c = if (rwF2 t n kd a r c).1 = false then (false, (rwF2 t n kd a r c).2.1, (rwF2 t n kd a r c).2.2.1, kd, (rwF2 t n kd a r c).2.2.2) else
    if (rwF2 t n kd a r c).2.1 = n then (true, n, (rwF2 t n kd a r c).2.2.1, kd + 1, (rwF2 t n kd a r c).2.2.2) else rdF2 t n f (kd + 1) (rwF2 t n kd a r c).2.1 (rwF2 t n kd a r c).2.2.1 (rwF2 t n kd a r c).2.2.2 := rfl
def cpF (f g : Nat → Nat) (n i : Nat) : Nat → Nat := fun j => if j < i then f j else g j
theorem cpF_s (f g : Nat → Nat) (n i : Nat) : cpF f g n (i + 1) = upN (cpF f g n i) i (f i) := by
  funext j
  unfold cpF upN
  by_cases h : j = i
  · subst h; rw [if_pos (by omega), if_pos rfl]
  · rw [if_neg h]
    by_cases h2 : j < i
    · rw [if_pos (by omega)]; exact (if_pos h2).symm
    · rw [if_neg (by omega)]; exact (if_neg h2).symm
theorem cpF_0 (f g : Nat → Nat) (n : Nat) : cpF f g n 0 = g := by funext j; simp [cpF]
/-- what table() leaves -/
abbrev taO (t : Nat → Nat) (z : Bool × Nat × (Nat → Nat) × Nat × Nat) (T : mT) (F : mF) (G : mG) (S : mS) (W : mW) : pm_O → List pm_E → Prop := fun o w' =>
  (z.1 = true ∧ o = .inl (some (.int (nI z.2.2.2.1))) ∧ ∃ P' : mP, w' = moW (t, 0) P' (z.2.2.2.1, z.2.2.2.2, cpF z.2.2.1 T.2.2.1 112 112, cpF (fun _ => 1) T.2.2.2 16 16) (0, F.2) G S W 0) ∨
  (z.1 = false ∧ o = .inl (some (.int (pm_k (-100) - nI z.2.1))) ∧ ∃ P' : mP, w' = moW (t, 0) P' T F G S W 0)
set_option maxHeartbeats 2000000 in
theorem d_table (hs : l.stackTraces = false) (t : Nat → Nat) (n : Nat) (P : mP) (T : mT) (F : mF) (G : mG) (S : mS) (W : mW) (th : Nat) (hn : n ≤ 160) (ht : Ch t) :
    pm_Met l mX6_table 5 0 0 [.ref 0] (moW (t, n) P T F G S W th) (taO t (rdF2 t n 7 0 0 P.2.2.2.2 0) T F G S W) := by
  generalize hO : taO t (rdF2 t n 7 0 0 P.2.2.2.2 0) T F G S W = O
  have bad : ∀ (P' : mP) x, x ≤ 200 → P'.2.1 = nI x → (rdF2 t n 7 0 0 P.2.2.2.2 0).1 = false → (rdF2 t n 7 0 0 P.2.2.2.2 0).2.1 = x → pm_J l mX6_table iX6_table 5 0 0 15 O 0 0 (29, [some (.ref 0), none], [], moW (t, n) P' T F G S W 0) := by
    intro P' x hx hP h1 h2
    have h0 : (0 : Int32) ≤ P'.2.1 := by rw [hP]; exact Int32.not_lt.mp (nI_pos (by omega))
    refine pm_J.run [] 40 (fun K hK => br_t h0 (br_f (show ¬ P'.2.1 < 0 from Int32.not_lt.mpr h0) (hK _ ?_)))
    refine pm_J.ri ?_
    rw [← hO]
    exact Or.inr ⟨h1, by rw [h2, ← hP], P', rfl⟩
  have good : ∀ a kd c fr, kd ≤ 7 → a ≤ n → rdF2 t n 7 0 0 P.2.2.2.2 0 = (true, a, fr, kd, c) → pm_J l mX6_table iX6_table 5 0 0 15 O 0 0 (54, [some (.ref 0), none], [], moW (t, n) (a, pm_k (-1), kd, c, fr) T F G S W 0) := by
    intro a kd c fr hk ha hz
    rw [hz] at hO
    clear bad hz
    refine pm_J.run [92] 60 (fun K hK => br_t (show pm_k (-1) < 0 by decide) (hK _ ?_))
    have two : ∀ x1, pm_J l mX6_table iX6_table 5 0 0 15 O 0 0 (116, [some (.ref 0), x1], [], moW (t, 0) (a, pm_k (-1), kd, c, fr) (kd, c, cpF fr T.2.2.1 112 112, T.2.2.2) F G S W 0) := by
      intro x1
      refine pm_J.run [118] 40 (fun K hK => hK _ ?_)
      have key : pm_J l mX6_table iX6_table 5 0 0 15 O 0 0 (118, [some (.ref 0), some (.int (nI 0))], [], moW (t, 0) (a, pm_k (-1), kd, c, fr) (kd, c, cpF fr T.2.2.1 112 112, cpF (fun _ => 1) T.2.2.2 16 0) F G S W 0) := by
        refine pm_up (b := 16) (P := fun i => pm_J l mX6_table iX6_table 5 0 0 15 O 0 0 (118, [some (.ref 0), some (.int (nI i))], [], moW (t, 0) (a, pm_k (-1), kd, c, fr) (kd, c, cpF fr T.2.2.1 112 112, cpF (fun _ => 1) T.2.2.2 16 i) F G S W 0)) 0 (by decide) ?_ (fun i h1 h2 ih => ?_)
        · refine pm_J.run [] 60 (fun K hK => br_t (nI_le (a := 16) (b := 16) (by decide) (by decide)) (hK _ ?_))
          refine pm_J.ri ?_
          rw [← hO]
          exact Or.inl ⟨rfl, rfl, _, rfl⟩
        · refine pm_J.run [118] 60 (fun K hK => br_f (nI_ge (a := i) (b := 16) h2 (by decide)) (And.intro (vp_in_nI (by omega) (by decide)) (hK _ ?_)))
          rw [cpF_s _ _ _ i] at ih
          unfold moW at ih
          dsimp only at ih
          rw [← nA_upd, ← nI_add i 1] at ih
          rw [nI_clamp (by omega)]
          exact ih
      rw [cpF_0] at key
      exact key
    have key : pm_J l mX6_table iX6_table 5 0 0 15 O 0 0 (92, [some (.ref 0), some (.int (nI 0))], [], moW (t, 0) (a, pm_k (-1), kd, c, fr) (kd, c, cpF fr T.2.2.1 112 0, T.2.2.2) F G S W 0) := by
      refine pm_up (b := 112) (P := fun i => pm_J l mX6_table iX6_table 5 0 0 15 O 0 0 (92, [some (.ref 0), some (.int (nI i))], [], moW (t, 0) (a, pm_k (-1), kd, c, fr) (kd, c, cpF fr T.2.2.1 112 i, T.2.2.2) F G S W 0)) 0 (by decide) ?_ (fun i h1 h2 ih => ?_)
      · refine pm_J.run [116] 60 (fun K hK => br_t (nI_le (a := 112) (b := 112) (by decide) (by decide)) (hK _ ?_))
        exact two _
      · refine pm_J.run [92] 60 (fun K hK => br_f (nI_ge (a := i) (b := 112) h2 (by decide)) (And.intro (vp_in_nI (by omega) (by decide)) (And.intro (vp_in_nI (by omega) (by decide)) (hK _ ?_))))
        rw [cpF_s _ _ _ i] at ih
        unfold moW at ih
        dsimp only at ih
        rw [← nA_upd, ← nI_add i 1] at ih
        rw [nI_clamp (by omega)]
        exact ih
    rw [cpF_0] at key
    exact key
  have aft : ∀ f kd a fr c, kd + f = 6 → a ≤ n → c ≤ 16 → rdF2 t n (f + 1) kd a fr c = rdF2 t n 7 0 0 P.2.2.2.2 0 → ∀ w1, roO (t, n) kd (rwF2 t n kd a fr c) T F G S W 0 (.inl none) w1 → pm_J l mX6_table iX6_table 5 0 0 15 O 0 0 (29, [some (.ref 0), none], [], w1) := by
    intro f
    induction f with
    | zero =>
      intro kd a fr c hkf ha hc hz w1 hw
      obtain ⟨o1, o2⟩ := rwF2_ok (t := t) (kd := kd) (r := fr) ha hc
      rw [rdF2_s] at hz
      generalize rwF2 t n kd a fr c = y at hw hz o1 o2
      obtain ⟨y1, y2, y3, y4⟩ := y
      dsimp only at hw hz o1 o2
      rcases hw with ⟨g1, _, g3⟩ | ⟨g1, P', g2, _, g3⟩
      · subst g1 g3
        rw [if_neg (by decide)] at hz
        refine pm_J.run [54] 40 (fun K hK => br_f (show ¬ (0 : Int32) ≤ pm_k (-1) by decide) (And.intro (fun q => hK _ ?_) (fun q => hK _ ?_)))
        · have q' : nI n ≤ nI y2 := q
          rw [nI_leI (by omega) (by omega)] at q'
          have e : y2 = n := by omega
          rw [if_pos e] at hz
          subst e
          exact good y2 (kd + 1) y4 y3 (by omega) (Nat.le_refl _) hz.symm
        · have q' : ¬ nI n ≤ nI y2 := q
          rw [nI_leI (by omega) (by omega)] at q'
          rw [if_neg (by omega)] at hz
          have e7 : kd + 1 = 7 := by omega
          rw [e7] at hz ⊢
          refine pm_J.cv q15 (moW (t, n) (y2, nI y2, 7, y4, y3) T F G S W 0) (d_row7 hs (t, n) y2 y4 y3 T F G S W 0) gRX6_91 vX6_row ?_
          refine pm_J.run [29] 40 (fun K hK => hK _ ?_)
          exact bad _ y2 (by omega) rfl (by rw [← hz]; rfl) (by rw [← hz]; rfl)
      · subst g1 g3
        rw [if_pos rfl] at hz
        exact bad P' y2 (by omega) g2 (by rw [← hz]) (by rw [← hz])
    | succ f ih =>
      intro kd a fr c hkf ha hc hz w1 hw
      obtain ⟨o1, o2⟩ := rwF2_ok (t := t) (kd := kd) (r := fr) ha hc
      rw [rdF2_s] at hz
      generalize rwF2 t n kd a fr c = y at hw hz o1 o2
      obtain ⟨y1, y2, y3, y4⟩ := y
      dsimp only at hw hz o1 o2
      rcases hw with ⟨g1, _, g3⟩ | ⟨g1, P', g2, _, g3⟩
      · subst g1 g3
        rw [if_neg (by decide)] at hz
        refine pm_J.run [54] 40 (fun K hK => br_f (show ¬ (0 : Int32) ≤ pm_k (-1) by decide) (And.intro (fun q => hK _ ?_) (fun q => hK _ ?_)))
        · have q' : nI n ≤ nI y2 := q
          rw [nI_leI (by omega) (by omega)] at q'
          have e : y2 = n := by omega
          rw [if_pos e] at hz
          subst e
          exact good y2 (kd + 1) y4 y3 (by omega) (Nat.le_refl _) hz.symm
        · have q' : ¬ nI n ≤ nI y2 := q
          rw [nI_leI (by omega) (by omega)] at q'
          rw [if_neg (by omega)] at hz
          refine pm_J.cR q15 (d_row hs t n y2 (kd + 1) y4 y3 T F G S W 0 hn ht o1 (by omega) o2) gRX6_91 vX6_row (fun E w1 h => ?_) (fun v w1 h => ?_)
          · rcases h with ⟨_, h, _⟩ | ⟨_, _, _, h, _⟩ <;> cases h
          · have hv : v = none := by rcases h with ⟨_, h, _⟩ | ⟨_, _, _, h, _⟩ <;> (cases h; rfl)
            subst hv
            have e : pm_bk (pm_rn q15) (moW (t, n) (y2, pm_k (-1), kd + 1, y4, y3) T F G S W 0) q15 w1 = w1 := by
              rcases h with ⟨_, _, h⟩ | ⟨_, _, _, _, h⟩ <;> (subst h; rfl)
            have := ih (kd + 1) y2 y3 y4 (by omega) o1 o2 hz w1 h
            refine pm_J.run [29] 40 (fun K hK => hK _ ?_)
            show pm_J l mX6_table iX6_table 5 0 0 15 O 0 0 (29, [some (.ref 0), none], [], pm_bk (pm_rn q15) (moW (t, n) (y2, pm_k (-1), kd + 1, y4, y3) T F G S W 0) q15 w1)
            rw [e]
            exact this
      · subst g1 g3
        rw [if_pos rfl] at hz
        exact bad P' y2 (by omega) g2 (by rw [← hz]) (by rw [← hz])
  refine pm_Met.mk kX6_table hs (pm_J.run [] 40 (fun K hK => hK _ ?_))
  refine pm_J.cR q15 (d_row hs t n 0 0 0 P.2.2.2.2 T F G S W 0 hn ht (Nat.zero_le _) (by decide) (by decide)) gRX6_91 vX6_row (fun E w1 h => ?_) (fun v w1 h => ?_)
  · rcases h with ⟨_, h, _⟩ | ⟨_, _, _, h, _⟩ <;> cases h
  · have hv : v = none := by rcases h with ⟨_, h, _⟩ | ⟨_, _, _, h, _⟩ <;> (cases h; rfl)
    subst hv
    have e : pm_bk (pm_rn q15) (moW (t, n) (0, pm_k (-1), 0, 0, P.2.2.2.2) T F G S W 0) q15 w1 = w1 := by
      rcases h with ⟨_, _, h⟩ | ⟨_, _, _, _, h⟩ <;> (subst h; rfl)
    have := aft 6 0 0 P.2.2.2.2 0 rfl (Nat.zero_le _) (by decide) rfl w1 h
    rw [← e] at this
    exact this
end MD4
end
section
section MD5
variable {l : Launch}
def rv (L : Nat → Nat) (old node k : Nat) : Nat := if L k = old ∧ k ≠ node then node else L k
def rpS (old node : Nat) (L R : Nat → Nat) : Nat → (Nat → Nat) × (Nat → Nat)
  | 0 => (L, R)
  | k + 1 => if k < 10 then (L, R) else (upN (rpS old node L R k).1 k (rv (rpS old node L R k).1 old node k), upN (rpS old node L R k).2 k (rv (rpS old node L R k).2 old node k))
theorem rv_Bd {L : Nat → Nat} (h : Bd L) {old node k : Nat} (hn : node < 128) : rv L old node k < 128 := by
  unfold rv; split
  · exact hn
  · exact h k
theorem rpS_Bd {old node : Nat} {L R : Nat → Nat} (hL : Bd L) (hR : Bd R) (hn : node < 128) : ∀ k, Bd (rpS old node L R k).1 ∧ Bd (rpS old node L R k).2
  | 0 => ⟨hL, hR⟩
  | k + 1 => by
    have ih := rpS_Bd (old := old) hL hR hn k
    unfold rpS
    split
    · exact ⟨hL, hR⟩
    · exact ⟨ih.1.up (rv_Bd ih.1 hn), ih.2.up (rv_Bd ih.2 hn)⟩
theorem d_replace (hs : l.stackTraces = false) (A : mA) (P : mP) (T : mT) (F : mF) (tp : Nat) (L R : Nat → Nat) (G' : (Nat → Nat) × (Nat → Nat) × (Nat → Nat)) (S : mS) (W : mW) (th old node : Nat) (htp : tp < 128) (hL : Bd L) (hR : Bd R) (ho : old < 128) (hn : node < 128) :
    pm_Met l mX6_replace 1 0 0 [.ref 0, .int (nI old), .int (nI node)] (moW A P T F (tp, L, R, G') S W th) (isO none (moW A P T F (if tp = old then node else tp, (rpS old node L R 16).1, (rpS old node L R 16).2, G') S W th)) := by
  generalize hO : isO none (moW A P T F (if tp = old then node else tp, (rpS old node L R 16).1, (rpS old node L R 16).2, G') S W th) = O
  have key : ∀ tp', (if tp = old then node else tp) = tp' → pm_J l mX6_replace iX6_replace 1 0 0 15 O 0 0 (16, [some (.ref 0), some (.int (nI old)), some (.int (nI node)), some (.int (nI 10))], [], moW A P T F (tp', (rpS old node L R 10).1, (rpS old node L R 10).2, G') S W th) := by
    intro tp' htp'
    refine pm_up (b := 16) (P := fun k => pm_J l mX6_replace iX6_replace 1 0 0 15 O 0 0 (16, [some (.ref 0), some (.int (nI old)), some (.int (nI node)), some (.int (nI k))], [], moW A P T F (tp', (rpS old node L R k).1, (rpS old node L R k).2, G') S W th)) 10 (by decide) ?_ (fun k h1 h2 ih => ?_)
    · refine pm_J.run [] 60 (fun K hK => br_t (nI_le (a := 16) (b := 16) (by decide) (by decide)) (hK _ ?_))
      refine pm_J.rv ?_
      rw [← hO, htp']
      exact ⟨rfl, rfl⟩
    · obtain ⟨b1, b2⟩ := rpS_Bd (old := old) hL hR hn k
      have e : rpS old node L R (k + 1) = (upN (rpS old node L R k).1 k (rv (rpS old node L R k).1 old node k), upN (rpS old node L R k).2 k (rv (rpS old node L R k).2 old node k)) := by rw [rpS, if_neg (by omega)]
      rw [e] at ih
      dsimp only at ih
      clear e
      generalize rpS old node L R k = z at ih b1 b2 ⊢
      obtain ⟨L1, R1⟩ := z
      dsimp only at ih b1 b2 ⊢
      have ek : (nI k).toNatClampNeg = k := nI_clamp (by omega)
      have ii : vp_in (nI k) 16 := vp_in_nI (by omega) (by decide)
      have second : pm_J l mX6_replace iX6_replace 1 0 0 15 O 0 0 (53, [some (.ref 0), some (.int (nI old)), some (.int (nI node)), some (.int (nI k))], [], moW A P T F (tp', upN L1 k (rv L1 old node k), R1, G') S W th) := by
        have fin : ∀ v, v = rv R1 old node k → pm_J l mX6_replace iX6_replace 1 0 0 15 O 0 0 (83, [some (.ref 0), some (.int (nI old)), some (.int (nI node)), some (.int (nI k))], [.int (nI v), .int (nI k), .ref 7], moW A P T F (tp', upN L1 k (rv L1 old node k), R1, G') S W th) := by
          intro v hv
          refine pm_J.run [16] 60 (fun K hK => And.intro ii (hK _ ?_))
          unfold moW at ih
          dsimp only at ih
          rw [← nI_add k 1, ← nA_upd R1, ← hv] at ih
          rw [ek]
          exact ih
        refine pm_J.run [83] 60 (fun K hK => And.intro ii (And.intro (fun q => And.intro ii (hK _ ?_)) (fun q => And.intro (fun q2 => And.intro ii (hK _ ?_)) (fun q2 => hK _ ?_))))
        · have q' : ¬ nI (R1 (nI k).toNatClampNeg) = nI old := q
          rw [ek, nI_e128 (b2 k) ho] at q'
          rw [ek]
          exact fin (R1 k) (show R1 k = rv R1 old node k by rw [rv, if_neg (fun z => q' z.1)])
        · have q2' : nI k = nI node := q2
          rw [nI_e128 (by omega) hn] at q2'
          rw [ek]
          exact fin (R1 k) (show R1 k = rv R1 old node k by rw [rv, if_neg (fun z => z.2 q2')])
        · have q' : ¬ ¬ nI (R1 (nI k).toNatClampNeg) = nI old := q
          have q2' : ¬ nI k = nI node := q2
          rw [ek, nI_e128 (b2 k) ho] at q'
          rw [nI_e128 (by omega) hn] at q2'
          exact fin node (by rw [rv, if_pos ⟨Classical.not_not.mp q', q2'⟩])
      have fin : ∀ v, v = rv L1 old node k → pm_J l mX6_replace iX6_replace 1 0 0 15 O 0 0 (52, [some (.ref 0), some (.int (nI old)), some (.int (nI node)), some (.int (nI k))], [.int (nI v), .int (nI k), .ref 6], moW A P T F (tp', L1, R1, G') S W th) := by
        intro v hv
        refine pm_J.run [53] 60 (fun K hK => And.intro ii (hK _ ?_))
        unfold moW at second
        dsimp only at second
        rw [← nA_upd L1, ← hv] at second
        rw [ek]
        exact second
      refine pm_J.run [52] 60 (fun K hK => br_f (nI_ge (a := k) (b := 16) h2 (by decide)) (And.intro ii (And.intro (fun q => And.intro ii (hK _ ?_)) (fun q => And.intro (fun q2 => And.intro ii (hK _ ?_)) (fun q2 => hK _ ?_)))))
      · have q' : ¬ nI (L1 (nI k).toNatClampNeg) = nI old := q
        rw [ek, nI_e128 (b1 k) ho] at q'
        rw [ek]
        exact fin (L1 k) (show L1 k = rv L1 old node k by rw [rv, if_neg (fun z => q' z.1)])
      · have q2' : nI k = nI node := q2
        rw [nI_e128 (by omega) hn] at q2'
        rw [ek]
        exact fin (L1 k) (show L1 k = rv L1 old node k by rw [rv, if_neg (fun z => z.2 q2')])
      · have q' : ¬ ¬ nI (L1 (nI k).toNatClampNeg) = nI old := q
        have q2' : ¬ nI k = nI node := q2
        rw [ek, nI_e128 (b1 k) ho] at q'
        rw [nI_e128 (by omega) hn] at q2'
        exact fin node (by rw [rv, if_pos ⟨Classical.not_not.mp q', q2'⟩])
  have e10 : rpS old node L R 10 = (L, R) := by rw [rpS, if_pos (by decide)]
  rw [e10] at key
  refine pm_Met.mk kX6_replace hs (pm_J.run [16] 40 (fun K hK => And.intro (fun q => hK _ ?_) (fun q => hK _ ?_)))
  · have q' : ¬ nI tp = nI old := q
    rw [nI_e128 htp ho] at q'
    exact key tp (if_neg q')
  · have q' : ¬ ¬ nI tp = nI old := q
    rw [nI_e128 htp ho] at q'
    exact key node (if_pos (Classical.not_not.mp q'))
def dvS (j : Nat) : Nat → Nat → Nat
  | 0, x => x
  | m + 1, x => if m ≤ j then x else dvS j m (x / (2 * m - 3))
def chR (k x j : Nat) : Nat := if j < 3 then 0 else dvS j k x % (2 * j - 3)
theorem d_choice (hs : l.stackTraces = false) (A : mA) (P : mP) (T : mT) (F : mF) (G : mG) (S : mS) (W : mW) (th x j : Nat) (hk : T.1 ≤ 7) (hx : x < 2 ^ 31) (hj2 : 2 ≤ j) (hj : j < T.1) :
    pm_Met l mX6_choice 1 0 0 [.ref 0, .int (nI x), .int (nI j)] (moW A P T F G S W th) (isI (nI (chR T.1 x j)) (moW A P T F G S W th)) := by
  generalize hO : isI (nI (chR T.1 x j)) (moW A P T F G S W th) = O
  have loop : ∀ i, j ≤ i → i < 7 → ∀ y, y < 2 ^ 31 → dvS j (i + 1) y = dvS j T.1 x → pm_J l mX6_choice iX6_choice 1 0 0 15 O 0 0 (10, [some (.ref 0), some (.int (nI x)), some (.int (nI j)), some (.int (nI y)), some (.int (nI i))], [], moW A P T F G S W th) := by
    intro i
    induction i with
    | zero => intro h; omega
    | succ i ih =>
      intro h1 h2 y hy he
      rw [dvS] at he
      by_cases h3 : i + 1 ≤ j
      · rw [if_pos h3] at he
        refine pm_J.run [31] 40 (fun K hK => br_t (nI_le (a := i + 1) (b := j) h3 (by omega)) (hK _ ?_))
        by_cases h4 : j < 3
        · refine pm_J.run [] 40 (fun K hK => br_f (nI_ge (a := j) (b := 3) h4 (by decide)) (hK _ ?_))
          refine pm_J.ri ?_
          rw [← hO, chR, if_pos h4]
          exact ⟨rfl, rfl⟩
        · have e1 : nI 2 * nI j - nI 3 = nI (2 * j - 3) := by rw [pk_mul, pk_sub (by omega)]
          have hne : ¬ nI 2 * nI j - nI 3 = 0 := by rw [e1]; exact nI_ne0 (by omega) (by omega)
          refine pm_J.run [] 40 (fun K hK => br_t (nI_le (a := 3) (b := j) (by omega) (by omega)) (And.intro hne (hK _ ?_)))
          refine pm_J.ri ?_
          rw [← hO, chR, if_neg h4, ← he, ← pk_rem hy (by omega) (by omega), ← e1]
          exact ⟨rfl, rfl⟩
      · rw [if_neg h3] at he
        have e1 : nI 2 * nI (i + 1) - nI 3 = nI (2 * (i + 1) - 3) := by rw [pk_mul, pk_sub (by omega)]
        have hne : ¬ nI 2 * nI (i + 1) - nI 3 = 0 := by rw [e1]; exact nI_ne0 (by omega) (by omega)
        refine pm_J.run [10] 40 (fun K hK => br_f (nI_ge (a := j) (b := i + 1) (by omega) (by omega)) (And.intro hne (hK _ ?_)))
        have := ih (by omega) (by omega) _ (Nat.lt_of_le_of_lt (Nat.div_le_self _ _) hy) he
        rw [← pk_div hy (by omega) (by omega), ← nI_dn i, ← e1] at this
        exact this
  refine pm_Met.mk kX6_choice hs (pm_J.run [10] 40 (fun K hK => hK _ ?_))
  have := loop (T.1 - 1) (by omega) (by omega) x hx (by rw [show T.1 - 1 + 1 = T.1 by omega])
  rw [← pk_sub (a := T.1) (b := 1) (by omega)] at this
  exact this
end MD5
end
section
section MD6
variable {l : Launch}
def B8 (f : Nat → Nat) : Prop := ∀ j, f j < 256
theorem B8.up {f : Nat → Nat} (h : B8 f) {k v : Nat} (hv : v < 256) : B8 (upN f k v) := fun j => by
  unfold upN
  split
  · exact hv
  · exact h j
theorem nI_e256 {a b : Nat} (ha : a < 256) (hb : b < 256) : nI a = nI b ↔ a = b := nI_eq (by omega) (by omega)
abbrev rdsT : Type := (Nat → Nat) × (Nat → Nat)
def gsT (L R : Nat → Nat) (s : rdsT) (k : Nat) : rdsT := if s.1 k = 0 ∧ ¬ s.1 (L k) = 0 ∧ ¬ s.1 (R k) = 0 then (upN s.1 k 1, upN s.2 k (s.2 (L k) ||| s.2 (R k))) else s
def gsI (L R : Nat → Nat) (s : rdsT) : Nat → rdsT
  | 0 => s
  | k + 1 => if k < 10 then s else gsT L R (gsI L R s k) k
def gsO (L R : Nat → Nat) (kn : Nat) (s : rdsT) : Nat → rdsT
  | 0 => s
  | r + 1 => gsI L R (gsO L R kn s r) (8 + kn)
def BR (s : rdsT) : Prop := Bd s.1 ∧ B8 s.2
theorem gsT_BR {L R : Nat → Nat} {s : rdsT} {k : Nat} (h : BR s) : BR (gsT L R s k) := by
  unfold gsT
  split
  · exact ⟨h.1.up (by decide), h.2.up (Nat.or_lt_two_pow (n := 8) (h.2 _) (h.2 _))⟩
  · exact h
theorem gsI_BR {L R : Nat → Nat} {s : rdsT} (h : BR s) : ∀ k, BR (gsI L R s k)
  | 0 => h
  | k + 1 => by
    unfold gsI
    split
    · exact h
    · exact gsT_BR (gsI_BR h k)
theorem gsO_BR {L R : Nat → Nat} {kn : Nat} {s : rdsT} (h : BR s) : ∀ r, BR (gsO L R kn s r)
  | 0 => h
  | r + 1 => gsI_BR (gsO_BR h r) _
def spS (st : Nat → Nat) (kn : Nat) (ss0 : Nat → Nat) : Nat → Nat × (Nat → Nat)
  | 0 => (0, ss0)
  | k + 1 => if k < 10 then (0, ss0) else if st k = 2 ^ kn - 2 then spS st kn ss0 k else ((spS st kn ss0 k).1 + 1, upN (spS st kn ss0 k).2 (spS st kn ss0 k).1 (st k))
theorem spS_le (st : Nat → Nat) (kn : Nat) (ss0 : Nat → Nat) : ∀ k, (spS st kn ss0 k).1 ≤ k - 10
  | 0 => Nat.le_refl _
  | k + 1 => by
    have := spS_le st kn ss0 k
    unfold spS
    split
    · exact Nat.zero_le _
    · split
      · omega
      · show _ + 1 ≤ k + 1 - 10; omega
theorem cpF_Bd {f g : Nat → Nat} {n i : Nat} (hf : Bd f) (hg : Bd g) : Bd (cpF f g n i) := fun j => by
  unfold cpF; split
  · exact hf j
  · exact hg j
theorem cpF_B8 {f g : Nat → Nat} {n i : Nat} (hf : B8 f) (hg : B8 g) : B8 (cpF f g n i) := fun j => by
  unfold cpF; split
  · exact hf j
  · exact hg j
def rdI (k : Nat) : Nat := if k < 8 then 1 else 0
def stI (k : Nat) : Nat := if k < 8 then 2 ^ k else 0
theorem rdI_Bd : Bd rdI := fun j => by unfold rdI; split <;> omega
theorem stI_B8 : B8 stI := fun j => by
  unfold stI; split
  · have : 2 ^ j < 2 ^ 8 := Nat.pow_lt_pow_right (by decide) (by assumption)
    omega
  · decide
def gsR (L R : Nat → Nat) (kn : Nat) (rd st : Nat → Nat) : rdsT := gsO L R kn (cpF rdI rd 16 16, cpF stI st 16 16) 6
set_option maxHeartbeats 2000000 in
theorem d_gather (hs : l.stackTraces = false) (A : mA) (P : mP) (T : mT) (F : mF) (tp : Nat) (L R st rd co : Nat → Nat) (S : mS) (W : mW) (th : Nat) (hk3 : 3 ≤ T.1) (hk : T.1 ≤ 7) (hL : ∀ j, L j < 16) (hR : ∀ j, R j < 16) (hst : B8 st) (hrd : Bd rd) :
    pm_Met l mX6_gather 1 0 0 [.ref 0] (moW A P T F (tp, L, R, st, rd, co) S W th)
      (isO none (moW A P T F (tp, L, R, (gsR L R T.1 rd st).2, (gsR L R T.1 rd st).1, co) ((spS (gsR L R T.1 rd st).2 T.1 S.2.1 (8 + T.1)).1, (spS (gsR L R T.1 rd st).2 T.1 S.2.1 (8 + T.1)).2, S.2.2) W th)) := by
  generalize hO : isO none (moW A P T F (tp, L, R, (gsR L R T.1 rd st).2, (gsR L R T.1 rd st).1, co) ((spS (gsR L R T.1 rd st).2 T.1 S.2.1 (8 + T.1)).1, (spS (gsR L R T.1 rd st).2 T.1 S.2.1 (8 + T.1)).2, S.2.2) W th) = O
  have hB0 : BR (cpF rdI rd 16 16, cpF stI st 16 16) := ⟨cpF_Bd (n := 16) rdI_Bd hrd, cpF_B8 (n := 16) stI_B8 hst⟩
  have hBe : BR (gsR L R T.1 rd st) := gsO_BR hB0 6
  have ek8 : pm_k 8 + nI T.1 = nI (8 + T.1) := nI_add 8 T.1
  have hp7 : 2 ^ T.1 ≤ 2 ^ 7 := Nat.pow_le_pow_right (by decide) hk
  -- the splits
  have three : ∀ x1 x2, pm_J l mX6_gather iX6_gather 1 0 0 15 O 0 0 (157, [some (.ref 0), x1, x2], [], moW A P T F (tp, L, R, (gsR L R T.1 rd st).2, (gsR L R T.1 rd st).1, co) S W th) := by
    intro x1 x2
    generalize gsR L R T.1 rd st = z at hO hBe ⊢
    obtain ⟨rd1, st1⟩ := z
    dsimp only at hO hBe ⊢
    refine pm_J.run [165] 60 (fun K hK => hK _ ?_)
    have go : ∀ i, 10 ≤ i → i ≤ 8 + T.1 → pm_J l mX6_gather iX6_gather 1 0 0 15 O 0 0 (165, [some (.ref 0), some (.int (nI i)), x2], [], moW A P T F (tp, L, R, st1, rd1, co) ((spS st1 T.1 S.2.1 i).1, (spS st1 T.1 S.2.1 i).2, S.2.2) W th) := by
      intro i0 hi0 hi1
      refine pm_up (b := 8 + T.1) (P := fun i => pm_J l mX6_gather iX6_gather 1 0 0 15 O 0 0 (165, [some (.ref 0), some (.int (nI i)), x2], [], moW A P T F (tp, L, R, st1, rd1, co) ((spS st1 T.1 S.2.1 i).1, (spS st1 T.1 S.2.1 i).2, S.2.2) W th)) i0 hi1 ?_ (fun i h1 h2 ih => ?_)
      · refine pm_J.run [] 60 (fun K hK => br_t (by show pm_k 8 + nI T.1 ≤ nI (8 + T.1); rw [ek8]; exact Int32.le_refl _) (hK _ ?_))
        refine pm_J.rv ?_
        rw [← hO]
        exact ⟨rfl, rfl⟩
      · have ei : (nI i).toNatClampNeg = i := nI_clamp (by omega)
        have ii : vp_in (nI i) 16 := vp_in_nI (by omega) (by decide)
        have hle := spS_le st1 T.1 S.2.1 i
        have em : nI 1 <<< (nI T.1 &&& 31) - nI 2 = nI (2 ^ T.1 - 2) ∨ T.1 = 0 := by
          by_cases h0 : T.1 = 0
          · exact Or.inr h0
          · refine Or.inl ?_
            have : 2 ^ 1 ≤ 2 ^ T.1 := Nat.pow_le_pow_right (by decide) (by omega)
            rw [nI_shl1 (by omega), pk_sub (by omega)]
        have em' : pm_k 1 <<< (nI T.1 &&& 31) - pm_k 2 = nI (2 ^ T.1 - 2) := by
          rcases em with em | em
          · exact em
          · omega
        have e : spS st1 T.1 S.2.1 (i + 1) = if st1 i = 2 ^ T.1 - 2 then spS st1 T.1 S.2.1 i else ((spS st1 T.1 S.2.1 i).1 + 1, upN (spS st1 T.1 S.2.1 i).2 (spS st1 T.1 S.2.1 i).1 (st1 i)) := by rw [spS, if_neg (by omega)]
        rw [e, ← nI_add i 1] at ih
        clear e
        refine pm_J.run [165] 60 (fun K hK => br_f (by show ¬ pm_k 8 + nI T.1 ≤ nI i; rw [ek8]; exact nI_ge h2 (by omega)) (And.intro ii (And.intro (fun q => hK _ ?_) (fun q => And.intro ii (And.intro (vp_in_nI (by omega) (by decide)) (hK _ ?_))))))
        · have q' : nI (st1 (nI i).toNatClampNeg) = pm_k 1 <<< (nI T.1 &&& 31) - pm_k 2 := q
          rw [ei, em', nI_e256 (hBe.2 i) (by omega)] at q'
          rw [if_pos q'] at ih
          exact ih
        · have q' : ¬ nI (st1 (nI i).toNatClampNeg) = pm_k 1 <<< (nI T.1 &&& 31) - pm_k 2 := q
          rw [ei, em', nI_e256 (hBe.2 i) (by omega)] at q'
          rw [if_neg q'] at ih
          unfold moW at ih
          dsimp only at ih
          rw [← nA_upd, ← nI_add (spS st1 T.1 S.2.1 i).1 1] at ih
          rw [ei, nI_clamp (by omega)]
          exact ih
    by_cases h2 : 2 ≤ T.1
    · have := go 10 (Nat.le_refl _) (by omega)
      have e : spS st1 T.1 S.2.1 10 = (0, S.2.1) := by rw [spS, if_pos (by decide)]
      rw [e] at this
      exact this
    · have e : spS st1 T.1 S.2.1 (8 + T.1) = (0, S.2.1) := by
        rw [show 8 + T.1 = (7 + T.1) + 1 by omega, spS, if_pos (by omega)]
      rw [e] at hO
      refine pm_J.run [] 60 (fun K hK => br_t (by show pm_k 8 + nI T.1 ≤ nI 10; rw [ek8]; exact nI_le (by omega) (by omega)) (hK _ ?_))
      refine pm_J.rv ?_
      rw [← hO]
      exact ⟨rfl, rfl⟩
  -- the rounds
  have two : ∀ x2, pm_J l mX6_gather iX6_gather 1 0 0 15 O 0 0 (52, [some (.ref 0), some (.int (nI 0)), x2], [], moW A P T F (tp, L, R, (gsO L R T.1 (cpF rdI rd 16 16, cpF stI st 16 16) 0).2, (gsO L R T.1 (cpF rdI rd 16 16, cpF stI st 16 16) 0).1, co) S W th) := by
    refine pm_up (b := 6) (P := fun r => ∀ x2, pm_J l mX6_gather iX6_gather 1 0 0 15 O 0 0 (52, [some (.ref 0), some (.int (nI r)), x2], [], moW A P T F (tp, L, R, (gsO L R T.1 (cpF rdI rd 16 16, cpF stI st 16 16) r).2, (gsO L R T.1 (cpF rdI rd 16 16, cpF stI st 16 16) r).1, co) S W th)) 0 (by decide) (fun x2 => ?_) (fun r h1 h2 ih x2 => ?_)
    · refine pm_J.run [157] 60 (fun K hK => br_t (nI_le (a := 6) (b := 6) (by decide) (by decide)) (hK _ ?_))
      exact three _ _
    · have hB := gsO_BR (L := L) (R := R) (kn := T.1) hB0 r
      have e : gsO L R T.1 (cpF rdI rd 16 16, cpF stI st 16 16) (r + 1) = gsI L R (gsO L R T.1 (cpF rdI rd 16 16, cpF stI st 16 16) r) (8 + T.1) := rfl
      rw [e, ← nI_add r 1] at ih
      clear e three
      generalize gsO L R T.1 (cpF rdI rd 16 16, cpF stI st 16 16) r = s0 at hB ih ⊢
      refine pm_J.run [61] 60 (fun K hK => br_f (nI_ge (a := r) (b := 6) h2 (by decide)) (hK _ ?_))
      have inner : pm_J l mX6_gather iX6_gather 1 0 0 15 O 0 0 (61, [some (.ref 0), some (.int (nI r)), some (.int (nI 10))], [], moW A P T F (tp, L, R, (gsI L R s0 10).2, (gsI L R s0 10).1, co) S W th) := by
        refine pm_up (b := 8 + T.1) (P := fun k => pm_J l mX6_gather iX6_gather 1 0 0 15 O 0 0 (61, [some (.ref 0), some (.int (nI r)), some (.int (nI k))], [], moW A P T F (tp, L, R, (gsI L R s0 k).2, (gsI L R s0 k).1, co) S W th)) 10 (by omega) ?_ (fun k g1 g2 ih2 => ?_)
        · refine pm_J.run [52] 60 (fun K hK => br_t (by show pm_k 8 + nI T.1 ≤ nI (8 + T.1); rw [ek8]; exact Int32.le_refl _) (hK _ ?_))
          exact ih _
        · have hBk := gsI_BR (L := L) (R := R) hB k
          have e : gsI L R s0 (k + 1) = gsT L R (gsI L R s0 k) k := by rw [gsI, if_neg (by omega)]
          rw [e, ← nI_add k 1, gsT] at ih2
          clear e
          generalize gsI L R s0 k = s1 at hBk ih2 ⊢
          obtain ⟨rd1, st1⟩ := s1
          dsimp only at hBk ih2 ⊢
          have ek : (nI k).toNatClampNeg = k := nI_clamp (by omega)
          have eL : (nI (L k)).toNatClampNeg = L k := nI_clamp (by have := hL k; omega)
          have eR : (nI (R k)).toNatClampNeg = R k := nI_clamp (by have := hR k; omega)
          have ii : vp_in (nI k) 16 := vp_in_nI (by omega) (by decide)
          have iL : vp_in (nI (L (nI k).toNatClampNeg)) 16 := by rw [ek]; exact vp_in_nI (hL k) (by decide)
          have iR : vp_in (nI (R (nI k).toNatClampNeg)) 16 := by rw [ek]; exact vp_in_nI (hR k) (by decide)
          have hz : ∀ j, nI (rd1 j) = 0 ↔ rd1 j = 0 := fun j => nI_z (by have : rd1 j < 128 := hBk.1 j; omega)
          have skip : ¬ (rd1 k = 0 ∧ ¬ rd1 (L k) = 0 ∧ ¬ rd1 (R k) = 0) → pm_J l mX6_gather iX6_gather 1 0 0 15 O 0 0 (145, [some (.ref 0), some (.int (nI r)), some (.int (nI k))], [], moW A P T F (tp, L, R, st1, rd1, co) S W th) := by
            intro hq
            rw [if_neg hq] at ih2
            refine pm_J.run [61] 60 (fun K hK => hK _ ?_)
            exact ih2
          refine pm_J.run [61, 145] 80 (fun K hK => br_f (by show ¬ pm_k 8 + nI T.1 ≤ nI k; rw [ek8]; exact nI_ge g2 (by omega)) ?_)
          refine And.intro ii (And.intro (fun q => hK _ ?_) (fun q => And.intro ii (And.intro iL (And.intro (fun q2 => hK _ ?_) (fun q2 => And.intro ii (And.intro iR (And.intro (fun q3 => hK _ ?_) (fun q3 => ?_))))))))
          rotate_left 3
          refine And.intro ii (And.intro iL (And.intro ii (And.intro iR (And.intro ii (And.intro ii (hK _ ?_))))))
          rotate_left 1
          · have q' : ¬ nI (rd1 (nI k).toNatClampNeg) = 0 := q
            rw [ek, hz] at q'
            exact skip (fun z => q' z.1)
          · have q' : nI (rd1 (nI (L (nI k).toNatClampNeg)).toNatClampNeg) = 0 := q2
            rw [ek, eL, hz] at q'
            exact skip (fun z => z.2.1 q')
          · have q' : nI (rd1 (nI (R (nI k).toNatClampNeg)).toNatClampNeg) = 0 := q3
            rw [ek, eR, hz] at q'
            exact skip (fun z => z.2.2 q')
          · have q1' : ¬ ¬ nI (rd1 (nI k).toNatClampNeg) = 0 := q
            have q2' : ¬ nI (rd1 (nI (L (nI k).toNatClampNeg)).toNatClampNeg) = 0 := q2
            have q3' : ¬ nI (rd1 (nI (R (nI k).toNatClampNeg)).toNatClampNeg) = 0 := q3
            rw [ek, hz] at q1'
            rw [ek, eL, hz] at q2'
            rw [ek, eR, hz] at q3'
            rw [if_pos ⟨Classical.not_not.mp q1', q2', q3'⟩] at ih2
            unfold moW at ih2
            dsimp only at ih2
            rw [← nA_upd st1, ← nA_upd rd1, ← nx_or] at ih2
            rw [ek]
            show pm_J l mX6_gather iX6_gather 1 0 0 15 O 0 0 (145, [some (.ref 0), some (.int (nI r)), some (.int (nI k))], [], [_, _, _, _, _, _, _, _, .inl (.int, 16, .inl (upd (nA st1) k (nI (st1 (nI (L k)).toNatClampNeg) ||| nI (st1 (nI (R k)).toNatClampNeg)))), .inl (.boolean, 16, .inl (upd (nA rd1) k (nI 1))), _, _, _, _, _])
            rw [eL, eR]
            refine pm_J.run [61] 60 (fun K hK => hK _ ?_)
            exact ih2
      exact inner
  have one : pm_J l mX6_gather iX6_gather 1 0 0 15 O 0 0 (2, [some (.ref 0), some (.int (nI 0)), none], [], moW A P T F (tp, L, R, cpF stI st 16 0, cpF rdI rd 16 0, co) S W th) := by
    refine pm_up (b := 16) (P := fun k => pm_J l mX6_gather iX6_gather 1 0 0 15 O 0 0 (2, [some (.ref 0), some (.int (nI k)), none], [], moW A P T F (tp, L, R, cpF stI st 16 k, cpF rdI rd 16 k, co) S W th)) 0 (by decide) ?_ (fun k h1 h2 ih => ?_)
    · refine pm_J.run [52] 60 (fun K hK => br_t (nI_le (a := 16) (b := 16) (by decide) (by decide)) (hK _ ?_))
      exact two _
    · have ek : (nI k).toNatClampNeg = k := nI_clamp (by omega)
      have ii : vp_in (nI k) 16 := vp_in_nI (by omega) (by decide)
      rw [cpF_s _ _ _ k, cpF_s _ _ _ k] at ih
      unfold moW at ih
      dsimp only at ih
      rw [← nA_upd (cpF stI st 16 k), ← nA_upd (cpF rdI rd 16 k), ← nI_add k 1] at ih
      by_cases h8 : k < 8
      · rw [stI, rdI, if_pos h8, if_pos h8, ← nI_shl1 (by omega)] at ih
        refine pm_J.run [2] 60 (fun K hK => br_f (nI_ge (a := k) (b := 16) h2 (by decide)) (br_f (nI_ge (a := k) (b := 8) h8 (by decide)) (And.intro ii (br_f (nI_ge (a := k) (b := 8) h8 (by decide)) (And.intro ii (hK _ ?_))))))
        rw [ek]
        exact ih
      · rw [stI, rdI, if_neg h8, if_neg h8] at ih
        refine pm_J.run [2] 60 (fun K hK => br_f (nI_ge (a := k) (b := 16) h2 (by decide)) (br_t (nI_le (a := 8) (b := k) (by omega) (by omega)) (And.intro ii (br_t (nI_le (a := 8) (b := k) (by omega) (by omega)) (And.intro ii (hK _ ?_))))))
        rw [ek]
        exact ih
  refine pm_Met.mk kX6_gather hs (pm_J.run [2] 40 (fun K hK => hK _ ?_))
  rw [cpF_0, cpF_0] at one
  exact one
end MD6
end
section
section MD7
variable {l : Launch}
/-- below N, and nothing past 16 -/
def Bz (N : Nat) (f : Nat → Nat) : Prop := (∀ j, f j < N) ∧ ∀ j, 16 ≤ j → f j = 0
theorem Bz.up {N : Nat} {f : Nat → Nat} (h : Bz N f) {k v : Nat} (hv : v < N) (hk : k < 16) : Bz N (upN f k v) := by
  refine ⟨fun j => ?_, fun j hj => ?_⟩
  · unfold upN
    split
    · exact hv
    · exact h.1 j
  · unfold upN
    rw [if_neg (by omega)]
    exact h.2 j hj
theorem Bz.mono {N M : Nat} {f : Nat → Nat} (h : Bz N f) (hm : N ≤ M) : Bz M f := ⟨fun j => Nat.lt_of_lt_of_le (h.1 j) hm, h.2⟩
theorem rpS_Bz {N old node : Nat} {L R : Nat → Nat} (hL : Bz N L) (hR : Bz N R) (hn : node < N) : ∀ k, k ≤ 16 → Bz N (rpS old node L R k).1 ∧ Bz N (rpS old node L R k).2
  | 0, _ => ⟨hL, hR⟩
  | k + 1, hk => by
    have ih := rpS_Bz (old := old) hL hR hn k (by omega)
    have h : ∀ f : Nat → Nat, Bz N f → rv f old node k < N := fun f hf => by
      unfold rv; split
      · exact hn
      · exact hf.1 k
    unfold rpS
    split
    · exact ⟨hL, hR⟩
    · exact ⟨ih.1.up (h _ ih.1) (by omega), ih.2.up (h _ ih.2) (by omega)⟩
def olN (k x j : Nat) : Nat := if chR k x j ≤ j - 2 then 1 + chR k x j else 10 + chR k x j - (j - 1)
theorem chR_lt {k x j : Nat} (h2 : 2 ≤ j) : chR k x j < 2 * j - 2 := by
  unfold chR
  split
  · omega
  · have := Nat.mod_lt (dvS j k x) (show 0 < 2 * j - 3 by omega)
    omega
theorem chR_2 {k x : Nat} : chR k x 2 = 0 := by unfold chR; rfl
theorem olN_lt {k x j : Nat} (h2 : 2 ≤ j) : olN k x j < 8 + j := by
  by_cases h3 : j = 2
  · subst h3
    unfold olN
    rw [chR_2]
    decide
  · have : chR k x j < 2 * j - 3 := by
      unfold chR
      rw [if_neg (by omega)]
      exact Nat.mod_lt _ (by omega)
    unfold olN
    split <;> omega
def gwS (k x : Nat) : Nat → Nat × (Nat → Nat) × (Nat → Nat)
  | 0 => (1, fun _ => 0, fun _ => 0)
  | j + 1 => if j < 2 then (1, fun _ => 0, fun _ => 0) else
    (if (gwS k x j).1 = olN k x j then 8 + j else (gwS k x j).1, upN (rpS (olN k x j) (8 + j) (gwS k x j).2.1 (gwS k x j).2.2 16).1 (8 + j) (olN k x j), upN (rpS (olN k x j) (8 + j) (gwS k x j).2.1 (gwS k x j).2.2 16).2 (8 + j) j)
theorem gwS_ok (k x : Nat) : ∀ j, j ≤ 7 → (gwS k x j).1 < 16 ∧ Bz 16 (gwS k x j).2.1 ∧ Bz 16 (gwS k x j).2.2
  | 0, _ => ⟨(by decide : 1 < 16), ⟨fun _ => (by decide : 0 < 16), fun _ _ => rfl⟩, ⟨fun _ => (by decide : 0 < 16), fun _ _ => rfl⟩⟩
  | j + 1, hj => by
    obtain ⟨i1, i2, i3⟩ := gwS_ok k x j (by omega)
    unfold gwS
    split
    · exact ⟨(by decide : 1 < 16), ⟨fun _ => (by decide : 0 < 16), fun _ _ => rfl⟩, ⟨fun _ => (by decide : 0 < 16), fun _ _ => rfl⟩⟩
    · have ho := olN_lt (k := k) (x := x) (j := j) (by omega)
      obtain ⟨b1, b2⟩ := rpS_Bz (old := olN k x j) (node := 8 + j) i2 i3 (by omega) 16 (by decide)
      refine ⟨?_, b1.up (by omega) (by omega), b2.up (by omega) (by omega)⟩
      show (if (gwS k x j).1 = olN k x j then 8 + j else (gwS k x j).1) < 16
      split
      · omega
      · exact i1
/-- the sets of a tree's nodes -/
def gwR (k x : Nat) : rdsT := gsO (gwS k x k).2.1 (gwS k x k).2.2 k (rdI, stI) 6
def gwT (k x : Nat) (co : Nat → Nat) : mG := ((gwS k x k).1, (gwS k x k).2.1, (gwS k x k).2.2, (gwR k x).2, (gwR k x).1, co)
def gwP (k x : Nat) (S : mS) : mS := ((spS (gwR k x).2 k S.2.1 (8 + k)).1, (spS (gwR k x).2 k S.2.1 (8 + k)).2, S.2.2)
def GI (G : mG) : Prop := Bz 16 G.2.1 ∧ Bz 16 G.2.2.1 ∧ Bz 256 G.2.2.2.1 ∧ Bz 128 G.2.2.2.2.1
theorem gsT_Bz {L R : Nat → Nat} {s : rdsT} {k : Nat} (hk : k < 16) (h : Bz 128 s.1 ∧ Bz 256 s.2) : Bz 128 (gsT L R s k).1 ∧ Bz 256 (gsT L R s k).2 := by
  unfold gsT
  split
  · exact ⟨h.1.up (by decide) hk, h.2.up (Nat.or_lt_two_pow (n := 8) (h.2.1 _) (h.2.1 _)) hk⟩
  · exact h
theorem gsI_Bz {L R : Nat → Nat} {s : rdsT} (h : Bz 128 s.1 ∧ Bz 256 s.2) : ∀ k, k ≤ 16 → Bz 128 (gsI L R s k).1 ∧ Bz 256 (gsI L R s k).2
  | 0, _ => h
  | k + 1, hk => by
    unfold gsI
    split
    · exact h
    · exact gsT_Bz (by omega) (gsI_Bz h k (by omega))
theorem gsO_Bz {L R : Nat → Nat} {kn : Nat} {s : rdsT} (hk : kn ≤ 7) (h : Bz 128 s.1 ∧ Bz 256 s.2) : ∀ r, Bz 128 (gsO L R kn s r).1 ∧ Bz 256 (gsO L R kn s r).2
  | 0 => h
  | r + 1 => gsI_Bz (gsO_Bz hk h r) _ (by omega)
theorem I_Bz : Bz 128 rdI ∧ Bz 256 stI := ⟨⟨rdI_Bd, fun j hj => by unfold rdI; rw [if_neg (by omega)]⟩, ⟨stI_B8, fun j hj => by unfold stI; rw [if_neg (by omega)]⟩⟩
theorem gwT_GI {k x : Nat} (co : Nat → Nat) (hk : k ≤ 7) : GI (gwT k x co) := by
  obtain ⟨i1, i2, i3⟩ := gwS_ok k x k hk
  obtain ⟨j1, j2⟩ := gsO_Bz (L := (gwS k x k).2.1) (R := (gwS k x k).2.2) (kn := k) (s := (rdI, stI)) hk I_Bz 6
  exact ⟨i2, i3, j2, j1⟩
theorem cpF_z {N : Nat} {f g : Nat → Nat} (hg : Bz N g) (hf : ∀ j, 16 ≤ j → f j = 0) : cpF f g 16 16 = f := by
  funext j
  unfold cpF
  split
  · rfl
  · rw [hg.2 j (by omega), hf j (by omega)]
set_option maxHeartbeats 2000000 in
theorem d_grow (hs : l.stackTraces = false) (A : mA) (P : mP) (T : mT) (F : mF) (G : mG) (S : mS) (W : mW) (th x : Nat) (hk3 : 3 ≤ T.1) (hk : T.1 ≤ 7) (hx : x < 2 ^ 31) (hG : GI G) :
    pm_Met l mX6_grow 2 0 0 [.ref 0, .int (nI x)] (moW A P T F G S W th) (isO none (moW A P T F (gwT T.1 x G.2.2.2.2.2) (gwP T.1 x S) W th)) := by
  generalize hO : isO none (moW A P T F (gwT T.1 x G.2.2.2.2.2) (gwP T.1 x S) W th) = O
  obtain ⟨tp, L, R, st, rd, co⟩ := G
  obtain ⟨hL, hR, hst, hrd⟩ := hG
  dsimp only at hL hR hst hrd hO ⊢
  have last : ∀ x3 x4, pm_J l mX6_grow iX6_grow 2 0 0 15 O 0 0 (110, [some (.ref 0), some (.int (nI x)), some (.int (nI T.1)), x3, x4], [], moW A P T F ((gwS T.1 x T.1).1, (gwS T.1 x T.1).2.1, (gwS T.1 x T.1).2.2, st, rd, co) S W th) := by
    intro x3 x4
    obtain ⟨i1, i2, i3⟩ := gwS_ok T.1 x T.1 hk
    refine pm_J.run [] 40 (fun K hK => hK _ ?_)
    have e1 : gsR (gwS T.1 x T.1).2.1 (gwS T.1 x T.1).2.2 T.1 rd st = gwR T.1 x := by
      unfold gsR gwR
      rw [cpF_z hrd I_Bz.1.2, cpF_z hst I_Bz.2.2]
    have hM := d_gather hs A P T F (gwS T.1 x T.1).1 (gwS T.1 x T.1).2.1 (gwS T.1 x T.1).2.2 st rd co S W th hk3 hk i2.1 i3.1 hst.1 hrd.1
    rw [e1] at hM
    refine pm_J.cv q15 (moW A P T F (gwT T.1 x co) (gwP T.1 x S) W th) hM gRX6_120 vX6_gather ?_
    refine pm_J.rv ?_
    rw [← hO]
    exact ⟨rfl, rfl⟩
  have loop : ∀ x3 x4, pm_J l mX6_grow iX6_grow 2 0 0 15 O 0 0 (35, [some (.ref 0), some (.int (nI x)), some (.int (nI 2)), x3, x4], [], moW A P T F ((gwS T.1 x 2).1, (gwS T.1 x 2).2.1, (gwS T.1 x 2).2.2, st, rd, co) S W th) := by
    refine pm_up (b := T.1) (P := fun j => ∀ x3 x4, pm_J l mX6_grow iX6_grow 2 0 0 15 O 0 0 (35, [some (.ref 0), some (.int (nI x)), some (.int (nI j)), x3, x4], [], moW A P T F ((gwS T.1 x j).1, (gwS T.1 x j).2.1, (gwS T.1 x j).2.2, st, rd, co) S W th)) 2 (by omega) (fun x3 x4 => ?_) (fun j h1 h2 ih x3 x4 => ?_)
    · refine pm_J.run [110] 40 (fun K hK => br_t (nI_le (Nat.le_refl _) (by omega)) (hK _ ?_))
      exact last _ _
    · obtain ⟨i1, i2, i3⟩ := gwS_ok T.1 x j (by omega)
      have ho := olN_lt (k := T.1) (x := x) (j := j) h1
      have hc := chR_lt (k := T.1) (x := x) (j := j) h1
      have e : gwS T.1 x (j + 1) = (if (gwS T.1 x j).1 = olN T.1 x j then 8 + j else (gwS T.1 x j).1, upN (rpS (olN T.1 x j) (8 + j) (gwS T.1 x j).2.1 (gwS T.1 x j).2.2 16).1 (8 + j) (olN T.1 x j), upN (rpS (olN T.1 x j) (8 + j) (gwS T.1 x j).2.1 (gwS T.1 x j).2.2 16).2 (8 + j) j) := by rw [gwS, if_neg (by omega)]
      rw [e, ← nI_add j 1] at ih
      clear e last
      dsimp only at ih
      have e8 : nI 8 + nI j = nI (8 + j) := nI_add 8 j
      have e8' : pm_k 8 + nI j = nI (8 + j) := nI_add 8 j
      refine pm_J.run [35] 40 (fun K hK => br_f (nI_ge h2 (by omega)) (hK _ ?_))
      refine pm_J.cI q15 (d_choice hs A P T F ((gwS T.1 x j).1, (gwS T.1 x j).2.1, (gwS T.1 x j).2.2, st, rd, co) S W th x j hk hx h1 h2) gRX6_112 vX6_choice ?_
      have mid : ∀ v, v = olN T.1 x j → pm_J l mX6_grow iX6_grow 2 0 0 15 O 0 0 (71, [some (.ref 0), some (.int (nI x)), some (.int (nI j)), some (.int (nI (chR T.1 x j))), x4], [.int (nI v)], moW A P T F ((gwS T.1 x j).1, (gwS T.1 x j).2.1, (gwS T.1 x j).2.2, st, rd, co) S W th) := by
        intro v hv
        subst hv
        have ih2 := ih (some (.int (nI (chR T.1 x j)))) (some (.int (nI (olN T.1 x j))))
        refine pm_J.run [] 40 (fun K hK => hK _ ?_)
        rw [e8']
        have hM := d_replace hs A P T F (gwS T.1 x j).1 (gwS T.1 x j).2.1 (gwS T.1 x j).2.2 (st, rd, co) S W th (olN T.1 x j) (8 + j) (by omega) (fun j => by have := i2.1 j; omega) (fun j => by have := i3.1 j; omega) (by omega) (by omega)
        generalize rpS (olN T.1 x j) (8 + j) (gwS T.1 x j).2.1 (gwS T.1 x j).2.2 16 = z at ih2 hM
        generalize (if (gwS T.1 x j).1 = olN T.1 x j then 8 + j else (gwS T.1 x j).1) = tp2 at ih2 hM
        refine pm_J.cv q15 (moW A P T F (tp2, z.1, z.2, st, rd, co) S W th) hM gRX6_116 vX6_replace ?_
        have ii : vp_in (pm_k 8 + nI j) 16 := by rw [e8']; exact vp_in_nI (by omega) (by decide)
        refine pm_J.run [35] 60 (fun K hK => And.intro ii (And.intro ii (hK _ ?_)))
        rw [e8', nI_clamp (by omega)]
        unfold moW at ih2
        dsimp only at ih2
        rw [← nA_upd z.1, ← nA_upd z.2] at ih2
        exact ih2
      refine pm_J.run [71] 40 (fun K hK => And.intro (fun q => hK _ ?_) (fun q => hK _ ?_))
      · have q' : nI j - nI 2 < nI (chR T.1 x j) := q
        rw [pk_sub (by omega), nI_ltI (by omega) (by omega)] at q'
        have := mid (10 + chR T.1 x j - (j - 1)) (by rw [olN, if_neg (by omega)])
        rw [← pk_sub (by omega), ← nI_add 10 _, ← pk_sub (a := j) (b := 1) (by omega)] at this
        exact this
      · have q' : ¬ nI j - nI 2 < nI (chR T.1 x j) := q
        rw [pk_sub (by omega), nI_ltI (by omega) (by omega)] at q'
        have := mid (1 + chR T.1 x j) (by rw [olN, if_pos (by omega)])
        rw [← nI_add 1 _] at this
        exact this
  have zero : pm_J l mX6_grow iX6_grow 2 0 0 15 O 0 0 (7, [some (.ref 0), some (.int (nI x)), some (.int (nI 0)), none, none], [], moW A P T F (1, cpF (fun _ => 0) L 16 0, cpF (fun _ => 0) R 16 0, st, rd, co) S W th) := by
    refine pm_up (b := 16) (P := fun i => pm_J l mX6_grow iX6_grow 2 0 0 15 O 0 0 (7, [some (.ref 0), some (.int (nI x)), some (.int (nI i)), none, none], [], moW A P T F (1, cpF (fun _ => 0) L 16 i, cpF (fun _ => 0) R 16 i, st, rd, co) S W th)) 0 (by decide) ?_ (fun i h1 h2 ih => ?_)
    · rw [cpF_z hL (fun _ _ => rfl), cpF_z hR (fun _ _ => rfl)]
      have e2 : gwS T.1 x 2 = (1, fun _ => 0, fun _ => 0) := by rw [gwS, if_pos (by decide)]
      rw [e2] at loop
      refine pm_J.run [35] 40 (fun K hK => br_t (nI_le (a := 16) (b := 16) (by decide) (by decide)) (hK _ ?_))
      exact loop none none
    · have ii : vp_in (nI i) 16 := vp_in_nI (by omega) (by decide)
      rw [cpF_s _ _ _ i, cpF_s _ _ _ i] at ih
      unfold moW at ih
      dsimp only at ih
      rw [← nA_upd (cpF (fun _ => 0) L 16 i), ← nA_upd (cpF (fun _ => 0) R 16 i), ← nI_add i 1] at ih
      refine pm_J.run [7] 40 (fun K hK => br_f (nI_ge (a := i) (b := 16) h2 (by decide)) (And.intro ii (And.intro ii (hK _ ?_))))
      rw [nI_clamp (by omega)]
      exact ih
  refine pm_Met.mk kX6_grow hs (pm_J.run [7] 40 (fun K hK => hK _ ?_))
  rw [cpF_0, cpF_0] at zero
  exact zero
end MD7
end
section
section MD8
variable {l : Launch}
theorem d_least (hs : l.stackTraces = false) (a b : Nat) (ha : a < 2 ^ 31) (hb : b < 2 ^ 31) : pm_Met l mX6_least 1 0 0 [.int (nI a), .int (nI b)] [] (isI (nI (min a b)) []) := by
  refine pm_Met.mk kX6_least hs (pm_J.run [] 20 (fun K hK => And.intro (fun q => hK _ ?_) (fun q => hK _ ?_)))
  · have q' : nI b ≤ nI a := q
    rw [nI_leI hb ha] at q'
    exact pm_J.ri ⟨by rw [Nat.min_eq_right q'], rfl⟩
  · have q' : ¬ nI b ≤ nI a := q
    rw [nI_leI hb ha] at q'
    exact pm_J.ri ⟨by rw [Nat.min_eq_left (by omega)], rfl⟩
def CB (co : Nat → Nat) : Prop := ∀ j, co j < 1000
theorem CB.up {f : Nat → Nat} (h : CB f) {k v : Nat} (hv : v < 1000) : CB (upN f k v) := fun j => by
  unfold upN
  split
  · exact hv
  · exact h j
def fmS (co : Nat → Nat) (nd x : Nat) : Nat → Nat
  | 0 => 99
  | s + 1 => min (fmS co nd x s) (co (4 * nd + s) + (if s = x then 0 else 1))
theorem fmS_le (co : Nat → Nat) (nd x : Nat) : ∀ s, fmS co nd x s ≤ 99
  | 0 => Nat.le_refl _
  | s + 1 => Nat.le_trans (Nat.min_le_left _ _) (fmS_le co nd x s)
abbrev frF (co : Nat → Nat) (nd x : Nat) : Nat := fmS co nd x 4
theorem d_from (hs : l.stackTraces = false) (A : mA) (P : mP) (T : mT) (F : mF) (G : mG) (S : mS) (W : mW) (th x nd : Nat) (hx : x < 4) (hn : nd < 16) (hc : CB G.2.2.2.2.2) :
    pm_Met l mX6_from 2 0 0 [.ref 0, .int (nI x), .int (nI nd)] (moW A P T F G S W th) (isI (nI (frF G.2.2.2.2.2 nd x)) (moW A P T F G S W th)) := by
  refine pm_Met.mk kX6_from hs (pm_J.run [6] 20 (fun K hK => hK _ ?_))
  refine pm_up (b := 4) (P := fun s => pm_J l mX6_from iX6_from 2 0 0 15 (isI (nI (frF G.2.2.2.2.2 nd x)) (moW A P T F G S W th)) 0 0 (6, [some (.ref 0), some (.int (nI x)), some (.int (nI nd)), some (.int (nI (fmS G.2.2.2.2.2 nd x s))), some (.int (nI s))], [], moW A P T F G S W th)) 0 (by decide) ?_ (fun s h1 h2 ih => ?_)
  · refine pm_J.run [6] 40 (fun K hK => br_t (nI_le (a := 4) (b := 4) (by decide) (by decide)) (hK _ ?_))
    exact pm_J.ri ⟨rfl, rfl⟩
  · have hl := fmS_le G.2.2.2.2.2 nd x s
    have hcv := hc (4 * nd + s)
    have e4 : pm_k 4 * nI nd + nI s = nI (4 * nd + s) := by
      show nI 4 * nI nd + nI s = _
      rw [pk_mul, nI_add]
    have go : ∀ d, (if s = x then 0 else 1) = d → pm_J l mX6_from iX6_from 2 0 0 15 (isI (nI (frF G.2.2.2.2.2 nd x)) (moW A P T F G S W th)) 0 0 (36, [some (.ref 0), some (.int (nI x)), some (.int (nI nd)), some (.int (nI (fmS G.2.2.2.2.2 nd x s))), some (.int (nI s))], [.int (nI (G.2.2.2.2.2 (4 * nd + s)) + nI d), .int (nI (fmS G.2.2.2.2.2 nd x s))], moW A P T F G S W th) := by
      intro d hd
      have hd1 : d ≤ 1 := by rw [← hd]; split <;> omega
      rw [nI_add]
      refine pm_J.cis (d_least hs (fmS G.2.2.2.2.2 nd x s) (G.2.2.2.2.2 (4 * nd + s) + d) (by omega) (by omega)) gRX6_126 vX6_least ?_
      have e : fmS G.2.2.2.2.2 nd x (s + 1) = min (fmS G.2.2.2.2.2 nd x s) (G.2.2.2.2.2 (4 * nd + s) + d) := by rw [fmS, hd]
      rw [e, ← nI_add s 1] at ih
      refine pm_J.run [6] 40 (fun K hK => hK _ ?_)
      exact ih
    refine pm_J.run [36] 40 (fun K hK => br_f (nI_ge (a := s) (b := 4) h2 (by decide)) (And.intro (by rw [e4]; exact vp_in_nI (by omega) (by decide)) (And.intro (fun q => hK _ ?_) (fun q => hK _ ?_))))
    · have q' : ¬ nI s = nI x := q
      rw [nI_e128 (by omega) (by omega)] at q'
      rw [e4, nI_clamp (by omega)]
      exact go 1 (if_neg q')
    · have q' : ¬ ¬ nI s = nI x := q
      rw [nI_e128 (by omega) (by omega)] at q'
      rw [e4, nI_clamp (by omega)]
      exact go 0 (if_pos (Classical.not_not.mp q'))
def rdK (kn k : Nat) : Nat := if k < kn then 1 else 0
def ciV (stt : Nat → Nat) (c j : Nat) : Nat := if stt (16 * (j / 4) + c) / 2 ^ (j % 4) % 2 = 1 then 0 else 99
def ncS (L R : Nat → Nat) (k : Nat) (co : Nat → Nat) : Nat → Nat → Nat
  | 0 => co
  | s + 1 => upN (ncS L R k co s) (4 * k + s) (frF (ncS L R k co s) (L k) s + frF (ncS L R k co s) (R k) s)
def nsT (L R : Nat → Nat) (s : rdsT) (k : Nat) : rdsT := if s.1 k = 0 ∧ ¬ s.1 (L k) = 0 ∧ ¬ s.1 (R k) = 0 then (upN s.1 k 1, ncS L R k s.2 4) else s
def nsI (L R : Nat → Nat) (s : rdsT) : Nat → rdsT
  | 0 => s
  | k + 1 => if k < 10 then s else nsT L R (nsI L R s k) k
def nsO (L R : Nat → Nat) (kn : Nat) (s : rdsT) : Nat → rdsT
  | 0 => s
  | r + 1 => nsI L R (nsO L R kn s r) (8 + kn)
def alS (co : Nat → Nat) (tp : Nat) : Nat → Nat
  | 0 => 99
  | s + 1 => min (alS co tp s) (co s + frF co tp s)
theorem alS_le (co : Nat → Nat) (tp : Nat) : ∀ s, alS co tp s ≤ 99
  | 0 => Nat.le_refl _
  | s + 1 => Nat.le_trans (Nat.min_le_left _ _) (alS_le co tp s)
theorem ncS_CB {L R : Nat → Nat} {k : Nat} {co : Nat → Nat} (h : CB co) : ∀ s, CB (ncS L R k co s)
  | 0 => h
  | s + 1 => (ncS_CB h s).up (by
      have h1 := fmS_le (ncS L R k co s) (L k) s 4
      have h2 := fmS_le (ncS L R k co s) (R k) s 4
      show fmS _ _ _ _ + fmS _ _ _ _ < 1000
      omega)
def BN (s : rdsT) : Prop := Bz 128 s.1 ∧ CB s.2
theorem nsT_BN {L R : Nat → Nat} {s : rdsT} {k : Nat} (hk : k < 16) (h : BN s) : BN (nsT L R s k) := by
  unfold nsT
  split
  · exact ⟨h.1.up (by decide) hk, ncS_CB h.2 4⟩
  · exact h
theorem nsI_BN {L R : Nat → Nat} {s : rdsT} (h : BN s) : ∀ k, k ≤ 16 → BN (nsI L R s k)
  | 0, _ => h
  | k + 1, hk => by
    unfold nsI
    split
    · exact h
    · exact nsT_BN (by omega) (nsI_BN h k (by omega))
theorem nsO_BN {L R : Nat → Nat} {kn : Nat} {s : rdsT} (hk : kn ≤ 7) (h : BN s) : ∀ r, BN (nsO L R kn s r)
  | 0 => h
  | r + 1 => nsI_BN (nsO_BN hk h r) _ (by omega)
theorem rdK_Bz {kn : Nat} (hk : kn ≤ 7) : Bz 128 (rdK kn) := ⟨fun j => by unfold rdK; split <;> omega, fun j hj => by unfold rdK; rw [if_neg (by omega)]⟩
theorem ci_CB {stt : Nat → Nat} {c : Nat} {co : Nat → Nat} (h : CB co) (i : Nat) : CB (cpF (ciV stt c) co 64 i) := fun j => by
  unfold cpF
  split
  · unfold ciV; split <;> omega
  · exact h j
/-- what the rounds of needed() leave -/
def ndR (T : mT) (L R : Nat → Nat) (co : Nat → Nat) (c : Nat) : rdsT := nsO L R T.1 (rdK T.1, cpF (ciV T.2.2.1 c) co 64 (4 * T.1)) 6
def ndF (T : mT) (tp : Nat) (L R : Nat → Nat) (co : Nat → Nat) (c : Nat) : Nat := alS (ndR T L R co c).2 tp 4
end MD8
end
section
section MD9
variable {l : Launch}
theorem bit_at16 {x st : Nat} (hx : x < 16) (hst : st < 4) : (nI x >>> (nI st &&& 31)) &&& pm_k 1 = nI (x / 2 ^ st % 2) := bit_at hx hst
theorem ciV_at {stt : Nat → Nat} {c k s : Nat} (hs : s < 4) : ciV stt c (4 * k + s) = if stt (16 * k + c) / 2 ^ s % 2 = 1 then 0 else 99 := by
  unfold ciV
  rw [show (4 * k + s) / 4 = k by omega, show (4 * k + s) % 4 = s by omega]
set_option maxHeartbeats 2000000 in
theorem d_needed (hs : l.stackTraces = false) (A : mA) (P : mP) (T : mT) (F : mF) (tp : Nat) (L R st rd co : Nat → Nat) (S : mS) (W : mW) (th c : Nat) (hk3 : 3 ≤ T.1) (hk : T.1 ≤ 7) (hc : c < 16) (htp : tp < 16) (hL : ∀ j, L j < 16) (hR : ∀ j, R j < 16) (hrd : Bz 128 rd) (hco : CB co) (hstt : ∀ k, k < T.1 → T.2.2.1 (16 * k + c) < 16) :
    pm_Met l mX6_needed 3 0 0 [.ref 0, .int (nI c)] (moW A P T F (tp, L, R, st, rd, co) S W th)
      (isI (nI (ndF T tp L R co c)) (moW A P T F (tp, L, R, st, (ndR T L R co c).1, (ndR T L R co c).2) S W th)) := by
  generalize hO : isI (nI (ndF T tp L R co c)) (moW A P T F (tp, L, R, st, (ndR T L R co c).1, (ndR T L R co c).2) S W th) = O
  have hB0 : BN (rdK T.1, cpF (ciV T.2.2.1 c) co 64 (4 * T.1)) := ⟨rdK_Bz hk, ci_CB hco _⟩
  have hBe : BN (ndR T L R co c) := nsO_BN hk hB0 6
  have ek8 : pm_k 8 + nI T.1 = nI (8 + T.1) := nI_add 8 T.1
  -- the end
  have three : ∀ x1 x2 x3 : Option Value, pm_J l mX6_needed iX6_needed 3 0 0 15 O 0 0 (218, [some (.ref 0), some (.int (nI c)), x1, x2, x3], [], moW A P T F (tp, L, R, st, (ndR T L R co c).1, (ndR T L R co c).2) S W th) := by
    intro x1 x2 x3
    unfold ndF at hO
    generalize ndR T L R co c = z at hO hBe ⊢
    obtain ⟨rd1, co1⟩ := z
    have hC1 : CB co1 := hBe.2
    dsimp only at hO ⊢
    refine pm_J.run [223] 60 (fun K hK => hK _ ?_)
    have go : pm_J l mX6_needed iX6_needed 3 0 0 15 O 0 0 (223, [some (.ref 0), some (.int (nI c)), some (.int (nI (alS co1 tp 0))), some (.int (nI 0)), x3], [], moW A P T F (tp, L, R, st, rd1, co1) S W th) := by
      refine pm_up (b := 4) (P := fun s => pm_J l mX6_needed iX6_needed 3 0 0 15 O 0 0 (223, [some (.ref 0), some (.int (nI c)), some (.int (nI (alS co1 tp s))), some (.int (nI s)), x3], [], moW A P T F (tp, L, R, st, rd1, co1) S W th)) 0 (by decide) ?_ (fun s h1 h2 ih => ?_)
      · refine pm_J.run [] 60 (fun K hK => br_t (nI_le (a := 4) (b := 4) (by decide) (by decide)) (hK _ ?_))
        refine pm_J.ri ?_
        rw [← hO]
        exact ⟨rfl, rfl⟩
      · have ha := alS_le co1 tp s
        have hcs := hC1 s
        have hf : frF co1 tp s ≤ 99 := fmS_le co1 tp s 4
        refine pm_J.run [223] 60 (fun K hK => br_f (nI_ge (a := s) (b := 4) h2 (by decide)) (And.intro (vp_in_nI (by omega) (by decide)) (hK _ ?_)))
        rw [nI_clamp (by omega)]
        refine pm_J.cI q15 (d_from hs A P T F (tp, L, R, st, rd1, co1) S W th s tp h2 htp hC1) gRX6_129 vX6_from ?_
        refine pm_J.run [] 60 (fun K hK => hK _ ?_)
        show pm_J l mX6_needed iX6_needed 3 0 0 15 O 0 0 (245, [some (.ref 0), some (.int (nI c)), some (.int (nI (alS co1 tp s))), some (.int (nI s)), x3], [.int (nI (co1 s) + nI (frF co1 tp s)), .int (nI (alS co1 tp s))], moW A P T F (tp, L, R, st, rd1, co1) S W th)
        rw [nI_add]
        refine pm_J.cis (d_least hs (alS co1 tp s) (co1 s + frF co1 tp s) (by omega) (by omega)) gRX6_126 vX6_least ?_
        have e : alS co1 tp (s + 1) = min (alS co1 tp s) (co1 s + frF co1 tp s) := rfl
        rw [e, ← nI_add s 1] at ih
        refine pm_J.run [223] 60 (fun K hK => hK _ ?_)
        exact ih
    exact go
  -- the rounds
  have two : ∀ x3 x4 : Option Value, pm_J l mX6_needed iX6_needed 3 0 0 15 O 0 0 (91, [some (.ref 0), some (.int (nI c)), some (.int (nI 0)), x3, x4], [], moW A P T F (tp, L, R, st, (nsO L R T.1 (rdK T.1, cpF (ciV T.2.2.1 c) co 64 (4 * T.1)) 0).1, (nsO L R T.1 (rdK T.1, cpF (ciV T.2.2.1 c) co 64 (4 * T.1)) 0).2) S W th) := by
    refine pm_up (b := 6) (P := fun r => ∀ x3 x4 : Option Value, pm_J l mX6_needed iX6_needed 3 0 0 15 O 0 0 (91, [some (.ref 0), some (.int (nI c)), some (.int (nI r)), x3, x4], [], moW A P T F (tp, L, R, st, (nsO L R T.1 (rdK T.1, cpF (ciV T.2.2.1 c) co 64 (4 * T.1)) r).1, (nsO L R T.1 (rdK T.1, cpF (ciV T.2.2.1 c) co 64 (4 * T.1)) r).2) S W th)) 0 (by decide) (fun x3 x4 => ?_) (fun r h1 h2 ih x3 x4 => ?_)
    · refine pm_J.run [218] 60 (fun K hK => br_t (nI_le (a := 6) (b := 6) (by decide) (by decide)) (hK _ ?_))
      exact three _ _ _
    · have hB := nsO_BN (L := L) (R := R) (kn := T.1) hk hB0 r
      have e : nsO L R T.1 (rdK T.1, cpF (ciV T.2.2.1 c) co 64 (4 * T.1)) (r + 1) = nsI L R (nsO L R T.1 (rdK T.1, cpF (ciV T.2.2.1 c) co 64 (4 * T.1)) r) (8 + T.1) := rfl
      rw [e, ← nI_add r 1] at ih
      clear e three
      generalize nsO L R T.1 (rdK T.1, cpF (ciV T.2.2.1 c) co 64 (4 * T.1)) r = s0 at hB ih ⊢
      refine pm_J.run [100] 60 (fun K hK => br_f (nI_ge (a := r) (b := 6) h2 (by decide)) (hK _ ?_))
      have inner : ∀ x4 : Option Value, pm_J l mX6_needed iX6_needed 3 0 0 15 O 0 0 (100, [some (.ref 0), some (.int (nI c)), some (.int (nI r)), some (.int (nI 10)), x4], [], moW A P T F (tp, L, R, st, (nsI L R s0 10).1, (nsI L R s0 10).2) S W th) := by
        refine pm_up (b := 8 + T.1) (P := fun k => ∀ x4 : Option Value, pm_J l mX6_needed iX6_needed 3 0 0 15 O 0 0 (100, [some (.ref 0), some (.int (nI c)), some (.int (nI r)), some (.int (nI k)), x4], [], moW A P T F (tp, L, R, st, (nsI L R s0 k).1, (nsI L R s0 k).2) S W th)) 10 (by omega) (fun x4 => ?_) (fun k g1 g2 ih2 x4 => ?_)
        · refine pm_J.run [91] 60 (fun K hK => br_t (by show pm_k 8 + nI T.1 ≤ nI (8 + T.1); rw [ek8]; exact Int32.le_refl _) (hK _ ?_))
          exact ih _ _
        · have hBk := nsI_BN (L := L) (R := R) hB k (by omega)
          have e : nsI L R s0 (k + 1) = nsT L R (nsI L R s0 k) k := by rw [nsI, if_neg (by omega)]
          rw [e, ← nI_add k 1, nsT] at ih2
          clear e
          generalize nsI L R s0 k = s1 at hBk ih2 ⊢
          obtain ⟨rd1, co1⟩ := s1
          have hR1 : Bz 128 rd1 := hBk.1
          have hC1 : CB co1 := hBk.2
          dsimp only at ih2 ⊢
          have ek : (nI k).toNatClampNeg = k := nI_clamp (by omega)
          have eL : (nI (L k)).toNatClampNeg = L k := nI_clamp (by have := hL k; omega)
          have eR : (nI (R k)).toNatClampNeg = R k := nI_clamp (by have := hR k; omega)
          have ii : vp_in (nI k) 16 := vp_in_nI (by omega) (by decide)
          have iL : vp_in (nI (L (nI k).toNatClampNeg)) 16 := by rw [ek]; exact vp_in_nI (hL k) (by decide)
          have iR : vp_in (nI (R (nI k).toNatClampNeg)) 16 := by rw [ek]; exact vp_in_nI (hR k) (by decide)
          have hz : ∀ j, nI (rd1 j) = 0 ↔ rd1 j = 0 := fun j => nI_z (by have : rd1 j < 128 := hR1.1 j; omega)
          have skip : ¬ (rd1 k = 0 ∧ ¬ rd1 (L k) = 0 ∧ ¬ rd1 (R k) = 0) → pm_J l mX6_needed iX6_needed 3 0 0 15 O 0 0 (206, [some (.ref 0), some (.int (nI c)), some (.int (nI r)), some (.int (nI k)), x4], [], moW A P T F (tp, L, R, st, rd1, co1) S W th) := by
            intro hq
            have ih3 := ih2 x4
            rw [if_neg hq] at ih3
            refine pm_J.run [100] 60 (fun K hK => hK _ ?_)
            exact ih3
          refine pm_J.run [151, 206] 80 (fun K hK => br_f (by show ¬ pm_k 8 + nI T.1 ≤ nI k; rw [ek8]; exact nI_ge g2 (by omega)) ?_)
          refine And.intro ii (And.intro (fun q => hK _ ?_) (fun q => And.intro ii (And.intro iL (And.intro (fun q2 => hK _ ?_) (fun q2 => And.intro ii (And.intro iR (And.intro (fun q3 => hK _ ?_) (fun q3 => hK _ ?_))))))))
          · have q' : ¬ nI (rd1 (nI k).toNatClampNeg) = 0 := q
            rw [ek, hz] at q'
            exact skip (fun z => q' z.1)
          · have q' : nI (rd1 (nI (L (nI k).toNatClampNeg)).toNatClampNeg) = 0 := q2
            rw [ek, eL, hz] at q'
            exact skip (fun z => z.2.1 q')
          · have q' : nI (rd1 (nI (R (nI k).toNatClampNeg)).toNatClampNeg) = 0 := q3
            rw [ek, eR, hz] at q'
            exact skip (fun z => z.2.2 q')
          · have q1' : ¬ ¬ nI (rd1 (nI k).toNatClampNeg) = 0 := q
            have q2' : ¬ nI (rd1 (nI (L (nI k).toNatClampNeg)).toNatClampNeg) = 0 := q2
            have q3' : ¬ nI (rd1 (nI (R (nI k).toNatClampNeg)).toNatClampNeg) = 0 := q3
            rw [ek, hz] at q1'
            rw [ek, eL, hz] at q2'
            rw [ek, eR, hz] at q3'
            have cell : pm_J l mX6_needed iX6_needed 3 0 0 15 O 0 0 (151, [some (.ref 0), some (.int (nI c)), some (.int (nI r)), some (.int (nI k)), some (.int (nI 0))], [], moW A P T F (tp, L, R, st, rd1, ncS L R k co1 0) S W th) := by
              refine pm_up (b := 4) (P := fun s => pm_J l mX6_needed iX6_needed 3 0 0 15 O 0 0 (151, [some (.ref 0), some (.int (nI c)), some (.int (nI r)), some (.int (nI k)), some (.int (nI s))], [], moW A P T F (tp, L, R, st, rd1, ncS L R k co1 s) S W th)) 0 (by decide) ?_ (fun s s1 s2 ih4 => ?_)
              · have ih3 := ih2 (some (.int (nI 4)))
                rw [if_pos ⟨Classical.not_not.mp q1', q2', q3'⟩] at ih3
                unfold moW at ih3
                dsimp only at ih3
                rw [← nA_upd rd1] at ih3
                refine pm_J.run [100] 60 (fun K hK => br_t (nI_le (a := 4) (b := 4) (by decide) (by decide)) (And.intro ii (hK _ ?_)))
                rw [ek]
                exact ih3
              · have hCs := ncS_CB (L := L) (R := R) (k := k) hC1 s
                have e4 : pm_k 4 * nI k + nI s = nI (4 * k + s) := by
                  show nI 4 * nI k + nI s = _
                  rw [pk_mul, nI_add]
                have e : ncS L R k co1 (s + 1) = upN (ncS L R k co1 s) (4 * k + s) (frF (ncS L R k co1 s) (L k) s + frF (ncS L R k co1 s) (R k) s) := rfl
                rw [e] at ih4
                unfold moW at ih4
                dsimp only at ih4
                rw [← nA_upd (ncS L R k co1 s), ← nI_add (frF (ncS L R k co1 s) (L k) s), ← nI_add s 1] at ih4
                refine pm_J.run [151] 60 (fun K hK => br_f (nI_ge (a := s) (b := 4) s2 (by decide)) (And.intro ii (hK _ ?_)))
                rw [ek, e4]
                refine pm_J.cI q15 (d_from hs A P T F (tp, L, R, st, rd1, ncS L R k co1 s) S W th s (L k) s2 (hL k) hCs) gRX6_129 vX6_from ?_
                refine pm_J.run [151] 60 (fun K hK => And.intro ii (hK _ ?_))
                rw [ek]
                refine pm_J.cI q15 (d_from hs A P T F (tp, L, R, st, rd1, ncS L R k co1 s) S W th s (R k) s2 (hR k) hCs) gRX6_129 vX6_from ?_
                refine pm_J.run [151] 60 (fun K hK => And.intro (vp_in_nI (by omega) (by decide)) (hK _ ?_))
                rw [nI_clamp (by omega)]
                exact ih4
            exact cell
      have i0 : nsI L R s0 10 = s0 := by rw [nsI, if_pos (by decide)]
      rw [i0] at inner
      exact inner _
  have one : ∀ x3 : Option Value, pm_J l mX6_needed iX6_needed 3 0 0 15 O 0 0 (2, [some (.ref 0), some (.int (nI c)), some (.int (nI 0)), x3, none], [], moW A P T F (tp, L, R, st, cpF (rdK T.1) rd 16 0, cpF (ciV T.2.2.1 c) co 64 (4 * min 0 T.1)) S W th) := by
    refine pm_up (b := 16) (P := fun k => ∀ x3 : Option Value, pm_J l mX6_needed iX6_needed 3 0 0 15 O 0 0 (2, [some (.ref 0), some (.int (nI c)), some (.int (nI k)), x3, none], [], moW A P T F (tp, L, R, st, cpF (rdK T.1) rd 16 k, cpF (ciV T.2.2.1 c) co 64 (4 * min k T.1)) S W th)) 0 (by decide) (fun x3 => ?_) (fun k h1 h2 ih x3 => ?_)
    · rw [cpF_z hrd (rdK_Bz hk).2, Nat.min_eq_right (by omega : T.1 ≤ 16)]
      refine pm_J.run [91] 60 (fun K hK => br_t (nI_le (a := 16) (b := 16) (by decide) (by decide)) (hK _ ?_))
      exact two _ _
    · have ek : (nI k).toNatClampNeg = k := nI_clamp (by omega)
      have ii : vp_in (nI k) 16 := vp_in_nI (by omega) (by decide)
      clear two three
      by_cases h8 : k < T.1
      · have ih := ih (some (.int (nI 4)))
        rw [cpF_s _ _ _ k, rdK, if_pos h8, Nat.min_eq_left (by omega : k + 1 ≤ T.1), ← nI_add k 1] at ih
        rw [Nat.min_eq_left (by omega : k ≤ T.1)]
        refine pm_J.run [29] 60 (fun K hK => br_f (nI_ge (a := k) (b := 16) h2 (by decide)) (br_f (nI_ge (a := k) (b := T.1) h8 (by omega)) (And.intro ii (hK _ ?_))))
        have inner : pm_J l mX6_needed iX6_needed 3 0 0 15 O 0 0 (29, [some (.ref 0), some (.int (nI c)), some (.int (nI k)), some (.int (nI 0)), none], [], moW A P T F (tp, L, R, st, upN (cpF (rdK T.1) rd 16 k) k 1, cpF (ciV T.2.2.1 c) co 64 (4 * k + 0)) S W th) := by
          refine pm_up (b := 4) (P := fun s => pm_J l mX6_needed iX6_needed 3 0 0 15 O 0 0 (29, [some (.ref 0), some (.int (nI c)), some (.int (nI k)), some (.int (nI s)), none], [], moW A P T F (tp, L, R, st, upN (cpF (rdK T.1) rd 16 k) k 1, cpF (ciV T.2.2.1 c) co 64 (4 * k + s)) S W th)) 0 (by decide) ?_ (fun s s1 s2 ih2 => ?_)
          · refine pm_J.run [2] 60 (fun K hK => br_t (nI_le (a := 4) (b := 4) (by decide) (by decide)) (hK _ ?_))
            exact ih
          · have e4 : pm_k 4 * nI k + nI s = nI (4 * k + s) := by
              show nI 4 * nI k + nI s = _
              rw [pk_mul, nI_add]
            have e16 : pm_k 16 * nI k + nI c = nI (16 * k + c) := by
              show nI 16 * nI k + nI c = _
              rw [pk_mul, nI_add]
            have hb := hstt k (by omega)
            rw [show 4 * k + (s + 1) = (4 * k + s) + 1 by omega, cpF_s _ _ _ (4 * k + s), ciV_at s2] at ih2
            unfold moW at ih2
            dsimp only at ih2
            rw [← nA_upd (cpF (ciV T.2.2.1 c) co 64 (4 * k + s)), ← nI_add s 1] at ih2
            have i1 : vp_in (pm_k 16 * nI k + nI c) 112 := by rw [e16]; exact vp_in_nI (by omega) (by decide)
            have i2 : vp_in (pm_k 4 * nI k + nI s) 64 := by rw [e4]; exact vp_in_nI (by omega) (by decide)
            refine pm_J.run [29] 80 (fun K hK => br_f (nI_ge (a := s) (b := 4) s2 (by decide)) (br_f (nI_ge (a := k) (b := T.1) h8 (by omega)) (And.intro i1 (And.intro (fun q => And.intro i2 (hK _ ?_)) (fun q => And.intro i2 (hK _ ?_))))))
            · have q' : ¬ (nI (T.2.2.1 (pm_k 16 * nI k + nI c).toNatClampNeg) >>> (nI s &&& 31)) &&& pm_k 1 = nI 1 := q
              rw [e16, nI_clamp (by omega), bit_at16 hb s2, nI_e128 (by omega) (by decide)] at q'
              rw [if_neg q'] at ih2
              rw [e4, nI_clamp (by omega)]
              exact ih2
            · have q' : ¬ ¬ (nI (T.2.2.1 (pm_k 16 * nI k + nI c).toNatClampNeg) >>> (nI s &&& 31)) &&& pm_k 1 = nI 1 := q
              rw [e16, nI_clamp (by omega), bit_at16 hb s2, nI_e128 (by omega) (by decide)] at q'
              rw [if_pos (Classical.not_not.mp q')] at ih2
              rw [e4, nI_clamp (by omega)]
              exact ih2
        unfold moW at inner
        dsimp only at inner
        rw [← nA_upd (cpF (rdK T.1) rd 16 k)] at inner
        rw [ek]
        exact inner
      · have ih := ih (some (.int (nI 0)))
        rw [cpF_s _ _ _ k, rdK, if_neg h8, Nat.min_eq_right (by omega : T.1 ≤ k + 1), ← nI_add k 1] at ih
        rw [Nat.min_eq_right (by omega : T.1 ≤ k)]
        unfold moW at ih
        dsimp only at ih
        rw [← nA_upd (cpF (rdK T.1) rd 16 k)] at ih
        refine pm_J.run [2] 60 (fun K hK => br_f (nI_ge (a := k) (b := 16) h2 (by decide)) (br_t (nI_le (a := T.1) (b := k) (by omega) (by omega)) (And.intro ii (br_f (by decide) (br_t (nI_le (a := T.1) (b := k) (by omega) (by omega)) (hK _ ?_))))))
        rw [ek]
        exact ih
  refine pm_Met.mk kX6_needed hs (pm_J.run [2] 40 (fun K hK => hK _ ?_))
  have := one none
  rw [cpF_0, Nat.zero_min, Nat.mul_zero, cpF_0] at this
  exact this
end MD9
end
section
section MDA
variable {l : Launch}
/-- the changes that a character needs on a tree, as the reference reckons them -/
def ndV (T : mT) (x c : Nat) : Nat := ndF T (gwS T.1 x T.1).1 (gwS T.1 x T.1).2.1 (gwS T.1 x T.1).2.2 (fun _ => 0) c
/-- they do not hang on what stood in the costs -/
def NdOk (T : mT) : Prop := ∀ x, x < tcount T.1 → ∀ co, CB co → ∀ c, c < T.2.1 → ndF T (gwS T.1 x T.1).1 (gwS T.1 x T.1).2.1 (gwS T.1 x T.1).2.2 co c = ndV T x c
def GJ (G : mG) : Prop := GI G ∧ CB G.2.2.2.2.2
/-- the reference's world, whatever the tree, its sets and splits -/
def moE (A : mA) (P : mP) (T : mT) (F : mF) (W : mW) (th : Nat) (w : List pm_E) : Prop := ∃ G S, GJ G ∧ w = moW A P T F G S W th
/-- the table as it stands -/
def TbI (T : mT) : Prop := T.1 ≤ 7 ∧ T.2.1 ≤ 16 ∧ ∀ a c, a < T.1 → c < T.2.1 → T.2.2.1 (16 * a + c) < 16
theorem tc_lt {k : Nat} (hk : k ≤ 7) : tcount k ≤ 945 := by
  have : ∀ k, k ≤ 7 → tcount k ≤ 945 := by decide
  exact this k hk
theorem tc_3 {k x : Nat} (hx : x < tcount k) : 3 ≤ k := by
  unfold tcount at hx
  split at hx <;> omega
/-- a tree that is grown, costs and readiness apart -/
def gwD (k x : Nat) (rd co : Nat → Nat) : mG := ((gwS k x k).1, (gwS k x k).2.1, (gwS k x k).2.2, (gwR k x).2, rd, co)
theorem gwD_GJ {k x : Nat} {rd co : Nat → Nat} (hk : k ≤ 7) (hr : Bz 128 rd) (hc : CB co) : GJ (gwD k x rd co) := by
  obtain ⟨g1, g2, g3, g4⟩ := gwT_GI (x := x) co hk
  exact ⟨⟨g1, g2, g3, hr⟩, hc⟩
theorem d_neededD (hs : l.stackTraces = false) (A : mA) (P : mP) (T : mT) (F : mF) (S : mS) (W : mW) (th x c : Nat) (rd co : Nat → Nat) (hT : TbI T) (hN : NdOk T) (hx : x < tcount T.1) (hc : c < T.2.1) (hrd : Bz 128 rd) (hco : CB co) :
    pm_Met l mX6_needed 3 0 0 [.ref 0, .int (nI c)] (moW A P T F (gwD T.1 x rd co) S W th) (isI (nI (ndV T x c)) (moW A P T F (gwD T.1 x (ndR T (gwS T.1 x T.1).2.1 (gwS T.1 x T.1).2.2 co c).1 (ndR T (gwS T.1 x T.1).2.1 (gwS T.1 x T.1).2.2 co c).2) S W th)) := by
  obtain ⟨i1, i2, i3⟩ := gwS_ok T.1 x T.1 hT.1
  have := d_needed hs A P T F (gwS T.1 x T.1).1 (gwS T.1 x T.1).2.1 (gwS T.1 x T.1).2.2 (gwR T.1 x).2 rd co S W th c (tc_3 hx) hT.1 (by have := hT.2.1; omega) i1 i2.1 i3.1 hrd hco (fun k hk => hT.2.2 k c hk hc)
  rw [hN x hx co hco c hc] at this
  exact this
theorem ndR_BN {T : mT} {L R co : Nat → Nat} {c : Nat} (hk : T.1 ≤ 7) (h : CB co) : BN (ndR T L R co c) := nsO_BN hk ⟨rdK_Bz hk, ci_CB h _⟩ 6
theorem d_growD (hs : l.stackTraces = false) (A : mA) (P : mP) (T : mT) (F : mF) (G : mG) (S : mS) (W : mW) (th x : Nat) (hk : T.1 ≤ 7) (hx : x < tcount T.1) (hG : GJ G) :
    pm_Met l mX6_grow 2 0 0 [.ref 0, .int (nI x)] (moW A P T F G S W th) (isO none (moW A P T F (gwD T.1 x (gwR T.1 x).1 G.2.2.2.2.2) (gwP T.1 x S) W th)) :=
  d_grow hs A P T F G S W th x (tc_3 hx) hk (by have := tc_lt hk; omega) hG.1
theorem gwR_Bz {k x : Nat} (hk : k ≤ 7) : Bz 128 (gwR k x).1 := (gwT_GI (x := x) (fun _ => 0) hk).2.2.2
theorem d_changes (hs : l.stackTraces = false) (A : mA) (P : mP) (T : mT) (F : mF) (G : mG) (S : mS) (W : mW) (th : Nat) (x y : Int32) (hT : TbI T) (hN : NdOk T) (hG : GJ G) :
    pm_Met l mX6_changes 4 0 0 [.ref 0, .int x, .int y] (moW A P T F G S W th) (fun o w' => ((okC (tcount T.1) x ∧ okC T.2.1 y) ∧ o = .inl (some (.int (nI (ndV T x.toNatClampNeg y.toNatClampNeg)))) ∧ moE A P T F W 0 w') ∨ (¬ (okC (tcount T.1) x ∧ okC T.2.1 y) ∧ o = .inl (some (.int (nI 0))) ∧ w' = moW A P T F G S W 1)) := by
  generalize hO : (fun (o : pm_O) (w' : List pm_E) => ((okC (tcount T.1) x ∧ okC T.2.1 y) ∧ o = .inl (some (.int (nI (ndV T x.toNatClampNeg y.toNatClampNeg)))) ∧ moE A P T F W 0 w') ∨ (¬ (okC (tcount T.1) x ∧ okC T.2.1 y) ∧ o = .inl (some (.int (nI 0))) ∧ w' = moW A P T F G S W 1)) = O
  have hk := hT.1
  have hc := hT.2.1
  have htc := tc_lt hk
  have bad : ¬ (okC (tcount T.1) x ∧ okC T.2.1 y) → pm_J l mX6_changes iX6_changes 4 0 0 15 O 0 0 (17, [some (.ref 0), some (.int x), some (.int y)], [.ref 0], moW A P T F G S W th) := by
    intro h
    refine pm_J.run [] 40 (fun K hK => br_f (by decide) (hK _ ?_))
    refine pm_J.ri ?_
    rw [← hO]
    exact Or.inr ⟨h, rfl, rfl⟩
  refine pm_Met.mk kX6_changes hs (pm_J.run [] 40 (fun K hK => hK _ ?_))
  refine pm_J.cI q15 (d_isTree hs A P T F G S W th x hk) gRX6_132 vX6_isTree ?_
  by_cases h : 0 ≤ x ∧ x < nI (tcount T.1)
  · rw [if_pos h]
    refine pm_J.run [17] 40 (fun K hK => br_f (by decide) (hK _ ?_))
    refine pm_J.cI q15 (d_isCharacter hs A P T F G S W th y) gRX6_103 vX6_isCharacter ?_
    by_cases h2 : 0 ≤ y ∧ y < nI T.2.1
    · rw [if_pos h2]
      obtain ⟨a, ha, rfl⟩ := ok_nat (by omega) h
      obtain ⟨b, hb, rfl⟩ := ok_nat (by omega) h2
      refine pm_J.run [17] 40 (fun K hK => br_t (by decide) (br_t (by decide) (hK _ ?_)))
      refine pm_J.cv q15 (moW A P T F (gwD T.1 a (gwR T.1 a).1 G.2.2.2.2.2) (gwP T.1 a S) W 0) (d_growD hs A P T F G S W 0 a hk ha hG) gRX6_135 vX6_grow ?_
      refine pm_J.run [17] 40 (fun K hK => hK _ ?_)
      refine pm_J.ciw q15 _ (d_neededD hs A P T F (gwP T.1 a S) W 0 a b (gwR T.1 a).1 G.2.2.2.2.2 hT hN ha hb (gwR_Bz hk) hG.2) gRX6_138 vX6_needed ?_
      refine pm_J.ri ?_
      rw [← hO]
      refine Or.inl ⟨⟨h, h2⟩, ?_, _, _, ?_, rfl⟩
      · rw [nI_clamp (by omega), nI_clamp (by omega)]
      · have := ndR_BN (T := T) (L := (gwS T.1 a T.1).2.1) (R := (gwS T.1 a T.1).2.2) (c := b) hk hG.2
        exact gwD_GJ hk this.1 this.2
    · rw [if_neg h2]
      refine pm_J.run [17] 40 (fun K hK => br_f (by decide) (hK _ ?_))
      exact bad (fun z => h2 z.2)
  · rw [if_neg h]
    refine pm_J.run [17] 40 (fun K hK => br_t (by decide) (hK _ ?_))
    exact bad (fun z => h z.1)
def lnS (T : mT) (x : Nat) : Nat → Nat
  | 0 => 0
  | c + 1 => lnS T x c + T.2.2.2 c * ndV T x c
abbrev lnV (T : mT) (x : Nat) : Nat := lnS T x T.2.1
/-- the reference's world with the tree x grown -/
def moG (A : mA) (P : mP) (T : mT) (F : mF) (S : mS) (W : mW) (th x : Nat) (w : List pm_E) : Prop := ∃ rd co, Bz 128 rd ∧ CB co ∧ w = moW A P T F (gwD T.1 x rd co) S W th
theorem d_lengthOf (hs : l.stackTraces = false) (A : mA) (P : mP) (T : mT) (F : mF) (G : mG) (S : mS) (W : mW) (th x : Nat) (hT : TbI T) (hN : NdOk T) (hx : x < tcount T.1) (hG : GJ G) :
    pm_Met l mX6_lengthOf 4 0 0 [.ref 0, .int (nI x)] (moW A P T F G S W th) (fun o w' => o = .inl (some (.int (nI (lnV T x)))) ∧ moG A P T F (gwP T.1 x S) W th x w') := by
  generalize hO : (fun (o : pm_O) (w' : List pm_E) => o = .inl (some (.int (nI (lnV T x)))) ∧ moG A P T F (gwP T.1 x S) W th x w') = O
  have hk := hT.1
  have hc := hT.2.1
  refine pm_Met.mk kX6_lengthOf hs (pm_J.run [] 40 (fun K hK => hK _ ?_))
  refine pm_J.cv q15 (moW A P T F (gwD T.1 x (gwR T.1 x).1 G.2.2.2.2.2) (gwP T.1 x S) W th) (d_growD hs A P T F G S W th x hk hx hG) gRX6_135 vX6_grow ?_
  refine pm_J.run [9] 40 (fun K hK => hK _ ?_)
  have key : ∀ rd co, Bz 128 rd → CB co → pm_J l mX6_lengthOf iX6_lengthOf 4 0 0 15 O 0 0 (9, [some (.ref 0), some (.int (nI x)), some (.int (nI (lnS T x 0))), some (.int (nI 0))], [], moW A P T F (gwD T.1 x rd co) (gwP T.1 x S) W th) := by
    refine pm_up (b := T.2.1) (P := fun c => ∀ rd co, Bz 128 rd → CB co → pm_J l mX6_lengthOf iX6_lengthOf 4 0 0 15 O 0 0 (9, [some (.ref 0), some (.int (nI x)), some (.int (nI (lnS T x c))), some (.int (nI c))], [], moW A P T F (gwD T.1 x rd co) (gwP T.1 x S) W th)) 0 (Nat.zero_le _) (fun rd co hr hco => ?_) (fun c h1 h2 ih rd co hr hco => ?_)
    · refine pm_J.run [] 40 (fun K hK => br_t (nI_le (Nat.le_refl _) (by omega)) (hK _ ?_))
      refine pm_J.ri ?_
      rw [← hO]
      exact ⟨rfl, rd, co, hr, hco, rfl⟩
    · have hB := ndR_BN (T := T) (L := (gwS T.1 x T.1).2.1) (R := (gwS T.1 x T.1).2.2) (c := c) hk hco
      have ih2 := ih _ _ hB.1 hB.2
      have e : lnS T x (c + 1) = lnS T x c + T.2.2.2 c * ndV T x c := rfl
      rw [e, ← nI_add (lnS T x c), ← pk_mul, ← nI_add c 1] at ih2
      refine pm_J.run [] 40 (fun K hK => br_f (nI_ge h2 (by omega)) (And.intro (vp_in_nI (by omega) (by decide)) (hK _ ?_)))
      rw [nI_clamp (by omega)]
      refine pm_J.ciw q15 _ (d_neededD hs A P T F (gwP T.1 x S) W th x c rd co hT hN hx h2 hr hco) gRX6_138 vX6_needed ?_
      refine pm_J.run [9] 40 (fun K hK => hK _ ?_)
      exact ih2
  exact key _ _ (gwR_Bz hk) hG.2
end MDA
end
section
section MDB
variable {l : Launch}
theorem ndV_le (T : mT) (x c : Nat) : ndV T x c ≤ 99 := alS_le _ _ 4
theorem lnS_le {T : mT} {x : Nat} (hw : Bd T.2.2.2) : ∀ c, lnS T x c ≤ c * 12573
  | 0 => Nat.zero_le _
  | c + 1 => by
    have ih := lnS_le (x := x) hw c
    have h1 := ndV_le T x c
    have h2 := hw c
    have h3 : T.2.2.2 c * ndV T x c ≤ 127 * 99 := Nat.mul_le_mul (by omega) h1
    unfold lnS
    omega
theorem d_length (hs : l.stackTraces = false) (A : mA) (P : mP) (T : mT) (F : mF) (G : mG) (S : mS) (W : mW) (th : Nat) (x : Int32) (hT : TbI T) (hN : NdOk T) (hG : GJ G) :
    pm_Met l mX6_length 5 0 0 [.ref 0, .int x] (moW A P T F G S W th) (fun o w' => (okC (tcount T.1) x ∧ o = .inl (some (.int (nI (lnV T x.toNatClampNeg)))) ∧ moE A P T F W 0 w') ∨ (¬ okC (tcount T.1) x ∧ o = .inl (some (.int (nI 0))) ∧ w' = moW A P T F G S W 1)) := by
  generalize hO : (fun (o : pm_O) (w' : List pm_E) => (okC (tcount T.1) x ∧ o = .inl (some (.int (nI (lnV T x.toNatClampNeg)))) ∧ moE A P T F W 0 w') ∨ (¬ okC (tcount T.1) x ∧ o = .inl (some (.int (nI 0))) ∧ w' = moW A P T F G S W 1)) = O
  have hk := hT.1
  have htc := tc_lt hk
  refine pm_Met.mk kX6_length hs (pm_J.run [] 40 (fun K hK => hK _ ?_))
  refine pm_J.cI q15 (d_isTree hs A P T F G S W th x hk) gRX6_132 vX6_isTree ?_
  by_cases h : 0 ≤ x ∧ x < nI (tcount T.1)
  · rw [if_pos h]
    obtain ⟨a, ha, rfl⟩ := ok_nat (by omega) h
    refine pm_J.run [] 40 (fun K hK => br_f (by decide) (br_f (by decide) (hK _ ?_)))
    refine pm_J.cR q15 (d_lengthOf hs A P T F G S W 0 a hT hN ha hG) gRX6_142 vX6_lengthOf (fun E w1 z => by cases z.1) (fun v w1 z => ?_)
    obtain ⟨z1, rd, co, hr, hco, rfl⟩ := z
    cases z1
    show pm_J l mX6_length iX6_length 5 0 0 15 O 0 0 (29, [some (.ref 0), some (.int (nI a))], [.int (nI (lnV T a))], moW A P T F (gwD T.1 a rd co) (gwP T.1 a S) W 0)
    refine pm_J.run [] 40 (fun K hK => hK _ ?_)
    refine pm_J.ri ?_
    rw [← hO]
    exact Or.inl ⟨h, by rw [nI_clamp (by omega)], _, _, gwD_GJ hk hr hco, rfl⟩
  · rw [if_neg h]
    refine pm_J.run [] 40 (fun K hK => br_t (by decide) (br_t (by decide) (hK _ ?_)))
    refine pm_J.ri ?_
    rw [← hO]
    exact Or.inr ⟨h, rfl, rfl⟩
set_option maxHeartbeats 1000000 in
theorem d_search (hs : l.stackTraces = false) (A : mA) (P : mP) (T : mT) (F : mF) (G : mG) (S : mS) (W : mW) (th : Nat) (hT : TbI T) (hN : NdOk T) (hw : Bd T.2.2.2) (hG : GJ G) :
    pm_Met l mX6_search 5 0 0 [.ref 0] (moW A P T F G S W th) (fun o w' => (tcount T.1 = 0 ∧ o = .inl (some (.int (nI 0))) ∧ w' = moW A P T F G S W 1) ∨ (¬ tcount T.1 = 0 ∧ o = .inl (some (.int (nI (gaS (lnV T) F.2 (tcount T.1)).1))) ∧ moE A P T ((gaS (lnV T) F.2 (tcount T.1)).2.1, (gaS (lnV T) F.2 (tcount T.1)).2.2) W 0 w')) := by
  generalize hO : (fun (o : pm_O) (w' : List pm_E) => (tcount T.1 = 0 ∧ o = .inl (some (.int (nI 0))) ∧ w' = moW A P T F G S W 1) ∨ (¬ tcount T.1 = 0 ∧ o = .inl (some (.int (nI (gaS (lnV T) F.2 (tcount T.1)).1))) ∧ moE A P T ((gaS (lnV T) F.2 (tcount T.1)).2.1, (gaS (lnV T) F.2 (tcount T.1)).2.2) W 0 w')) = O
  have hk := hT.1
  have htc := tc_lt hk
  have hc := hT.2.1
  have hlB : ∀ x, lnV T x < 2 ^ 30 := fun x => by
    have := lnS_le (x := x) hw T.2.1
    have : T.2.1 * 12573 ≤ 16 * 12573 := Nat.mul_le_mul_right _ hc
    show lnS T x T.2.1 < 2 ^ 30
    omega
  refine pm_Met.mk kX6_search hs (pm_J.run [] 40 (fun K hK => hK _ ?_))
  refine pm_J.cI q15 (d_many hs A P T F G S W th hk) gRX6_106 vX6_many ?_
  refine pm_J.run [36] 60 (fun K hK => And.intro (fun q => br_t (by decide) (hK _ ?_)) (fun q => br_f (by decide) (hK _ ?_)))
  · have q' : ¬ nI (tcount T.1) = 0 := q
    rw [nI_z (by omega)] at q'
    have key : ∀ G S x4, GJ G → pm_J l mX6_search iX6_search 5 0 0 15 O 0 0 (36, [some (.ref 0), some (.int (nI (tcount T.1))), some (.int (nI (gaS (lnV T) F.2 0).1)), some (.int (nI 0)), x4], [], moW A P T ((gaS (lnV T) F.2 0).2.1, (gaS (lnV T) F.2 0).2.2) G S W 0) := by
      refine pm_up (b := tcount T.1) (P := fun i => ∀ G S x4, GJ G → pm_J l mX6_search iX6_search 5 0 0 15 O 0 0 (36, [some (.ref 0), some (.int (nI (tcount T.1))), some (.int (nI (gaS (lnV T) F.2 i).1)), some (.int (nI i)), x4], [], moW A P T ((gaS (lnV T) F.2 i).2.1, (gaS (lnV T) F.2 i).2.2) G S W 0)) 0 (Nat.zero_le _) (fun G S x4 hG => ?_) (fun i h1 h2 ih G S x4 hG => ?_)
      · refine pm_J.run [] 40 (fun K hK => br_t (nI_le (Nat.le_refl _) (by omega)) (hK _ ?_))
        refine pm_J.ri ?_
        rw [← hO]
        exact Or.inr ⟨q', rfl, G, S, hG, rfl⟩
      · have hle := gaS_le (lnV T) F.2 i
        have hmn := gaS_min (nu := F.2) (B := 2 ^ 30) (by decide) hlB i
        have hli := hlB i
        have e : gaS (lnV T) F.2 (i + 1) = if (gaS (lnV T) F.2 i).2.1 = 0 ∨ lnV T i < (gaS (lnV T) F.2 i).1 then (lnV T i, 1, upN (gaS (lnV T) F.2 i).2.2 0 i)
            else if lnV T i = (gaS (lnV T) F.2 i).1 then ((gaS (lnV T) F.2 i).1, (gaS (lnV T) F.2 i).2.1 + 1, upN (gaS (lnV T) F.2 i).2.2 (gaS (lnV T) F.2 i).2.1 i) else gaS (lnV T) F.2 i := rfl
        rw [e] at ih
        clear e
        generalize gaS (lnV T) F.2 i = z at ih hle hmn ⊢
        obtain ⟨z1, z2, z3⟩ := z
        dsimp only at ih hle hmn ⊢
        refine pm_J.run [] 40 (fun K hK => br_f (nI_ge h2 (by omega)) (hK _ ?_))
        refine pm_J.cR q15 (d_lengthOf hs A P T (z2, z3) G S W 0 i hT hN h2 hG) gRX6_142 vX6_lengthOf (fun E w1 z => by cases z.1) (fun v w1 z => ?_)
        obtain ⟨y1, rd, co, hr, hco, rfl⟩ := z
        cases y1
        have ih := ih (gwD T.1 i rd co) (gwP T.1 i S) (some (.int (nI (lnV T i)))) (gwD_GJ hk hr hco)
        generalize gwD T.1 i rd co = G2 at ih ⊢
        generalize gwP T.1 i S = S2 at ih ⊢
        generalize lnV T i = f at ih hli ⊢
        show pm_J l mX6_search iX6_search 5 0 0 15 O 0 0 (46, [some (.ref 0), some (.int (nI (tcount T.1))), some (.int (nI z1)), some (.int (nI i)), x4], [.int (nI f)], moW A P T (z2, z3) G2 S2 W 0)
        have new : (z2 = 0 ∨ f < z1) → pm_J l mX6_search iX6_search 5 0 0 15 O 0 0 (61, [some (.ref 0), some (.int (nI (tcount T.1))), some (.int (nI z1)), some (.int (nI i)), some (.int (nI f))], [], moW A P T (z2, z3) G2 S2 W 0) := by
          intro hq
          rw [if_pos hq] at ih
          unfold moW at ih
          dsimp only at ih
          rw [← nA_upd z3, ← nI_add i 1] at ih
          refine pm_J.run [36] 60 (fun K hK => br_f (fun z => z rfl) (And.intro (vp_in_nI (n := 0) (by decide) (by decide)) (hK _ ?_)))
          exact ih
        refine pm_J.run [61, 69] 60 (fun K hK => And.intro (fun g => hK _ ?_) (fun g => And.intro (fun g2 => hK _ ?_) (fun g2 => hK _ ?_)))
        · have g' : nI z2 = 0 := g
          rw [nI_z (by omega)] at g'
          exact new (Or.inl g')
        · have g' : ¬ nI z2 = 0 := g
          have g2' : nI z1 ≤ nI f := g2
          rw [nI_z (by omega)] at g'
          rw [nI_leI (by omega) (by omega)] at g2'
          rw [if_neg (show ¬ (z2 = 0 ∨ f < z1) by omega)] at ih
          refine pm_J.run [36, 95] 60 (fun K hK => And.intro (fun g3 => hK _ ?_) (fun g3 => And.intro (vp_in_nI (by omega) (by decide)) (hK _ ?_)))
          · have g3' : ¬ nI f = nI z1 := g3
            rw [nI_eq (by omega) (by omega)] at g3'
            rw [if_neg g3', ← nI_add i 1] at ih
            refine pm_J.run [36] 60 (fun K hK => hK _ ?_)
            exact ih
          · have g3' : ¬ ¬ nI f = nI z1 := g3
            rw [nI_eq (by omega) (by omega)] at g3'
            rw [if_pos (Classical.not_not.mp g3')] at ih
            unfold moW at ih
            dsimp only at ih
            rw [← nA_upd z3, ← nI_add i 1, ← nI_add z2 1] at ih
            rw [nI_clamp (by omega)]
            refine pm_J.run [36] 60 (fun K hK => hK _ ?_)
            exact ih
        · have g2' : ¬ nI z1 ≤ nI f := g2
          rw [nI_leI (by omega) (by omega)] at g2'
          exact new (Or.inr (by omega))
    exact key G S none hG
  · have q' : ¬ ¬ nI (tcount T.1) = 0 := q
    rw [nI_z (by omega)] at q'
    refine pm_J.ri ?_
    rw [← hO]
    exact Or.inl ⟨Classical.not_not.mp q', rfl, rfl⟩
def hasQ (ss : Nat → Nat) (x : Int32) : Nat → Bool
  | 0 => false
  | k + 1 => hasQ ss x k || decide (nI (ss k) = x)
theorem d_hasSplit (hs : l.stackTraces = false) (A : mA) (P : mP) (T : mT) (F : mF) (G : mG) (S : mS) (W : mW) (th : Nat) (x : Int32) (hS : S.1 ≤ 8) :
    pm_Met l mX6_hasSplit 1 0 0 [.ref 0, .int x] (moW A P T F G S W th) (isI (nI (b2n (hasQ S.2.1 x S.1))) (moW A P T F G S W th)) := by
  refine pm_Met.mk kX6_hasSplit hs (pm_J.run [4] 40 (fun K hK => hK _ ?_))
  refine pm_up (b := S.1) (P := fun k => pm_J l mX6_hasSplit iX6_hasSplit 1 0 0 15 (isI (nI (b2n (hasQ S.2.1 x S.1))) (moW A P T F G S W th)) 0 0 (4, [some (.ref 0), some (.int x), some (.int (nI (b2n (hasQ S.2.1 x k)))), some (.int (nI k))], [], moW A P T F G S W th)) 0 (Nat.zero_le _) ?_ (fun k h1 h2 ih => ?_)
  · refine pm_J.run [] 40 (fun K hK => br_t (nI_le (Nat.le_refl _) (by omega)) (hK _ ?_))
    refine pm_J.ri ⟨rfl, rfl⟩ (hn := ?_)
    cases hasQ S.2.1 x S.1 <;> rfl
  · have e : hasQ S.2.1 x (k + 1) = (hasQ S.2.1 x k || decide (nI (S.2.1 k) = x)) := rfl
    rw [e, ← nI_add k 1] at ih
    cases hq : hasQ S.2.1 x k with
    | true =>
      rw [hq, Bool.true_or] at ih
      refine pm_J.run [4] 40 (fun K hK => br_f (nI_ge h2 (by omega)) (br_t (by decide) (hK _ ?_)))
      exact ih
    | false =>
      rw [hq, Bool.false_or] at ih
      refine pm_J.run [4] 40 (fun K hK => br_f (nI_ge h2 (by omega)) (br_f (by decide) (And.intro (vp_in_nI (by omega) (by decide)) (And.intro (fun q => hK _ ?_) (fun q => hK _ ?_)))))
      · have q' : ¬ nI (S.2.1 (nI k).toNatClampNeg) = x := q
        rw [nI_clamp (by omega)] at q'
        rw [decide_eq_false q'] at ih
        exact ih
      · have q' : ¬ ¬ nI (S.2.1 (nI k).toNatClampNeg) = x := q
        rw [nI_clamp (by omega)] at q'
        rw [decide_eq_true (Classical.not_not.mp q')] at ih
        exact ih
end MDB
end
section
section MDC
variable {l : Launch}
theorem spS_ag (st : Nat → Nat) (k : Nat) (s0 s1 : Nat → Nat) : ∀ n, (spS st k s0 n).1 = (spS st k s1 n).1 ∧ ∀ i, i < (spS st k s1 n).1 → (spS st k s0 n).2 i = (spS st k s1 n).2 i
  | 0 => ⟨rfl, fun i hi => absurd hi (Nat.not_lt_zero i)⟩
  | n + 1 => by
    obtain ⟨h1, h2⟩ := spS_ag st k s0 s1 n
    unfold spS
    split
    · exact ⟨rfl, fun i hi => absurd hi (Nat.not_lt_zero i)⟩
    · split
      · exact ⟨h1, h2⟩
      · dsimp only
        rw [h1]
        refine ⟨rfl, fun i hi => ?_⟩
        unfold upN
        split
        · rfl
        · exact h2 i (by omega)
theorem hasQ_ag {s0 s1 : Nat → Nat} {x : Int32} : ∀ n, (∀ i, i < n → s0 i = s1 i) → hasQ s0 x n = hasQ s1 x n
  | 0, _ => rfl
  | n + 1, h => by
    unfold hasQ
    rw [hasQ_ag n (fun i hi => h i (by omega)), h n (by omega)]
/-- a tree's splits, as the reference gathers them -/
def spW (k a : Nat) : Nat × (Nat → Nat) := spS (gwR k a).2 k (fun _ => 0) (8 + k)
def hasT (k a : Nat) (x : Int32) : Bool := hasQ (spW k a).2 x (spW k a).1
theorem gwP_n (k a : Nat) (S : mS) : (gwP k a S).1 = (spW k a).1 := (spS_ag _ _ _ _ _).1
theorem gwP_e {k a : Nat} (S : mS) {i : Nat} (hi : i < (spW k a).1) : (gwP k a S).2.1 i = (spW k a).2 i := (spS_ag _ _ _ _ _).2 i hi
theorem gwP_has (k a : Nat) (S : mS) (x : Int32) : hasQ (gwP k a S).2.1 x (gwP k a S).1 = hasT k a x := by
  rw [gwP_n]
  exact hasQ_ag _ (fun i hi => gwP_e S hi)
theorem spW_le {k a : Nat} (hk : k ≤ 7) : (spW k a).1 ≤ 8 := by
  have := spS_le (gwR k a).2 k (fun _ => 0) (8 + k)
  unfold spW
  omega
theorem d_hasP (hs : l.stackTraces = false) (A : mA) (P : mP) (T : mT) (F : mF) (G : mG) (S : mS) (W : mW) (th k a : Nat) (x : Int32) (hk : k ≤ 7) :
    pm_Met l mX6_hasSplit 1 0 0 [.ref 0, .int x] (moW A P T F G (gwP k a S) W th) (isI (nI (b2n (hasT k a x))) (moW A P T F G (gwP k a S) W th)) := by
  have := d_hasSplit hs A P T F G (gwP k a S) W th x (by rw [gwP_n]; exact spW_le hk)
  rw [gwP_has] at this
  exact this
theorem d_split (hs : l.stackTraces = false) (A : mA) (P : mP) (T : mT) (F : mF) (G : mG) (S : mS) (W : mW) (th : Nat) (x y : Int32) (hk : T.1 ≤ 7) (hG : GJ G) :
    pm_Met l mX6_split 3 0 0 [.ref 0, .int x, .int y] (moW A P T F G S W th) (fun o w' => (okC (tcount T.1) x ∧ o = .inl (some (.int (nI (b2n (hasT T.1 x.toNatClampNeg y))))) ∧ moE A P T F W 0 w') ∨ (¬ okC (tcount T.1) x ∧ o = .inl (some (.int (nI 0))) ∧ w' = moW A P T F G S W 1)) := by
  generalize hO : (fun (o : pm_O) (w' : List pm_E) => (okC (tcount T.1) x ∧ o = .inl (some (.int (nI (b2n (hasT T.1 x.toNatClampNeg y))))) ∧ moE A P T F W 0 w') ∨ (¬ okC (tcount T.1) x ∧ o = .inl (some (.int (nI 0))) ∧ w' = moW A P T F G S W 1)) = O
  have htc := tc_lt hk
  refine pm_Met.mk kX6_split hs (pm_J.run [] 40 (fun K hK => hK _ ?_))
  refine pm_J.cI q15 (d_isTree hs A P T F G S W th x hk) gRX6_132 vX6_isTree ?_
  by_cases h : 0 ≤ x ∧ x < nI (tcount T.1)
  · rw [if_pos h]
    obtain ⟨a, ha, rfl⟩ := ok_nat (by omega) h
    refine pm_J.run [] 40 (fun K hK => br_f (by decide) (br_t (by decide) (hK _ ?_)))
    refine pm_J.cv q15 (moW A P T F (gwD T.1 a (gwR T.1 a).1 G.2.2.2.2.2) (gwP T.1 a S) W 0) (d_growD hs A P T F G S W 0 a hk ha hG) gRX6_135 vX6_grow ?_
    refine pm_J.run [] 40 (fun K hK => hK _ ?_)
    refine pm_J.cI q15 (d_hasP hs A P T F (gwD T.1 a (gwR T.1 a).1 G.2.2.2.2.2) S W 0 T.1 a y hk) gRX6_145 vX6_hasSplit ?_
    refine pm_J.ri ?_ (hn := ?_)
    · rw [← hO]
      exact Or.inl ⟨h, by rw [nI_clamp (by omega)], _, _, gwD_GJ hk (gwR_Bz hk) hG.2, rfl⟩
    · cases hasT T.1 a y <;> rfl
  · rw [if_neg h]
    refine pm_J.run [] 40 (fun K hK => br_t (by decide) (br_f (by decide) (hK _ ?_)))
    refine pm_J.ri ?_ (hn := rfl)
    rw [← hO]
    exact Or.inr ⟨h, rfl, rfl⟩
def shQ (k : Nat) (be : Nat → Nat) (x : Int32) : Nat → Nat
  | 0 => 0
  | i + 1 => shQ k be x i + b2n (hasT k (be i) x)
theorem shQ_le (k : Nat) (be : Nat → Nat) (x : Int32) : ∀ n, shQ k be x n ≤ n
  | 0 => Nat.le_refl _
  | n + 1 => by
    have := shQ_le k be x n
    unfold shQ b2n
    split <;> omega
/-- what is found, as it stands -/
def FI (T : mT) (F : mF) : Prop := F.1 ≤ 945 ∧ (∀ i, i < F.1 → F.2 i < tcount T.1)
def moS (A : mA) (P : mP) (T : mT) (F : mF) (s2 : Nat × (Nat → Nat)) (W : mW) (th : Nat) (w : List pm_E) : Prop := ∃ G s1 e1, GJ G ∧ w = moW A P T F G (s1, e1, s2) W th
theorem d_sharing (hs : l.stackTraces = false) (A : mA) (P : mP) (T : mT) (F : mF) (G : mG) (S : mS) (W : mW) (th : Nat) (x : Int32) (hk : T.1 ≤ 7) (hF : FI T F) (hG : GJ G) :
    pm_Met l mX6_sharing 3 0 0 [.ref 0, .int x] (moW A P T F G S W th) (fun o w' => o = .inl (some (.int (nI (shQ T.1 F.2 x F.1)))) ∧ moS A P T F S.2.2 W th w') := by
  generalize hO : (fun (o : pm_O) (w' : List pm_E) => o = .inl (some (.int (nI (shQ T.1 F.2 x F.1)))) ∧ moS A P T F S.2.2 W th w') = O
  have htc := tc_lt hk
  refine pm_Met.mk kX6_sharing hs (pm_J.run [4] 40 (fun K hK => hK _ ?_))
  have key : ∀ (G : mG) s1 e1, GJ G → pm_J l mX6_sharing iX6_sharing 3 0 0 15 O 0 0 (4, [some (.ref 0), some (.int x), some (.int (nI (shQ T.1 F.2 x 0))), some (.int (nI 0))], [], moW A P T F G (s1, e1, S.2.2) W th) := by
    refine pm_up (b := F.1) (P := fun i => ∀ (G : mG) s1 e1, GJ G → pm_J l mX6_sharing iX6_sharing 3 0 0 15 O 0 0 (4, [some (.ref 0), some (.int x), some (.int (nI (shQ T.1 F.2 x i))), some (.int (nI i))], [], moW A P T F G (s1, e1, S.2.2) W th)) 0 (Nat.zero_le _) (fun G s1 e1 hG => ?_) (fun i h1 h2 ih G s1 e1 hG => ?_)
    · refine pm_J.run [] 40 (fun K hK => br_t (nI_le (Nat.le_refl _) (by have := hF.1; omega)) (hK _ ?_))
      refine pm_J.ri ?_
      rw [← hO]
      exact ⟨rfl, G, s1, e1, hG, rfl⟩
    · have h945 := hF.1
      have hb := hF.2 i h2
      refine pm_J.run [] 40 (fun K hK => br_f (nI_ge h2 (by omega)) (And.intro (vp_in_nI (by omega) (by decide)) (hK _ ?_)))
      rw [nI_clamp (by omega)]
      refine pm_J.cv q15 (moW A P T F (gwD T.1 (F.2 i) (gwR T.1 (F.2 i)).1 G.2.2.2.2.2) (gwP T.1 (F.2 i) (s1, e1, S.2.2)) W th) (d_growD hs A P T F G (s1, e1, S.2.2) W th (F.2 i) hk hb hG) gRX6_135 vX6_grow ?_
      refine pm_J.run [] 40 (fun K hK => hK _ ?_)
      refine pm_J.cI q15 (d_hasP hs A P T F (gwD T.1 (F.2 i) (gwR T.1 (F.2 i)).1 G.2.2.2.2.2) (s1, e1, S.2.2) W th T.1 (F.2 i) x hk) gRX6_145 vX6_hasSplit ?_
      have ih := ih (gwD T.1 (F.2 i) (gwR T.1 (F.2 i)).1 G.2.2.2.2.2) (gwP T.1 (F.2 i) (s1, e1, S.2.2)).1 (gwP T.1 (F.2 i) (s1, e1, S.2.2)).2.1 (gwD_GJ hk (gwR_Bz hk) hG.2)
      have e : shQ T.1 F.2 x (i + 1) = shQ T.1 F.2 x i + b2n (hasT T.1 (F.2 i) x) := rfl
      rw [e, ← nI_add i 1] at ih
      clear e
      cases hq : hasT T.1 (F.2 i) x with
      | true =>
        rw [hq] at ih
        have ih : pm_J l mX6_sharing iX6_sharing 3 0 0 15 O 0 0 (4, [some (.ref 0), some (.int x), some (.int (nI (shQ T.1 F.2 x i + 1))), some (.int (nI i + nI 1))], [], moW A P T F (gwD T.1 (F.2 i) (gwR T.1 (F.2 i)).1 G.2.2.2.2.2) (gwP T.1 (F.2 i) (s1, e1, S.2.2)) W th) := ih
        rw [← nI_add (shQ T.1 F.2 x i) 1] at ih
        refine pm_J.run [4] 40 (fun K hK => br_f (by decide) (hK _ ?_))
        exact ih
      | false =>
        rw [hq] at ih
        refine pm_J.run [4] 40 (fun K hK => br_t (by decide) (hK _ ?_))
        exact ih
  exact key G S.1 S.2.1 hG
theorem d_share (hFP : FPd) (hs : l.stackTraces = false) (A : mA) (P : mP) (T : mT) (F : mF) (G : mG) (S : mS) (W : mW) (th : Nat) (x : Int32) (hk : T.1 ≤ 7) (hF : FI T F) (hG : GJ G) :
    pm_Met l mX6_share 4 0 0 [.ref 0, .int x] (moW A P T F G S W th) (fun o w' => (F.1 = 0 ∧ o = .inl (some (.float FP.fconst0)) ∧ w' = moW A P T F G S W 1) ∨ (¬ F.1 = 0 ∧ o = .inl (some (.float (FP.fdiv (FP.i2f (nI (shQ T.1 F.2 x F.1))) (FP.i2f (nI F.1))))) ∧ moE A P T F W 0 w')) := by
  generalize hO : (fun (o : pm_O) (w' : List pm_E) => (F.1 = 0 ∧ o = .inl (some (.float FP.fconst0)) ∧ w' = moW A P T F G S W 1) ∨ (¬ F.1 = 0 ∧ o = .inl (some (.float (FP.fdiv (FP.i2f (nI (shQ T.1 F.2 x F.1))) (FP.i2f (nI F.1))))) ∧ moE A P T F W 0 w')) = O
  have h945 := hF.1
  refine pm_Met.mk kX6_share hs (pm_J.run [] 40 (fun K hK => And.intro (fun q => br_f (by decide) (hK _ ?_)) (fun q => br_t (by decide) (hK _ ?_))))
  · have q' : ¬ nI F.1 = 0 := q
    have q2 := q'
    rw [nI_z (by omega)] at q2
    refine pm_J.cR q15 (d_sharing hs A P T F G S W 0 x hk hF hG) gRX6_148 vX6_sharing (fun E w1 z => by cases z.1) (fun v w1 z => ?_)
    obtain ⟨z1, G2, s1, e1, hG2, rfl⟩ := z
    cases z1
    show pm_J l mX6_share iX6_share 4 0 0 15 O 0 0 (28, [some (.ref 0), some (.int x)], [.int (nI (shQ T.1 F.2 x F.1))], moW A P T F G2 (s1, e1, S.2.2) W 0)
    refine pm_J.run [] 40 (fun K hK => And.intro (hFP _ _ q') (hK _ ?_))
    refine pm_J.rf ?_
    rw [← hO]
    exact Or.inr ⟨q2, rfl, _, _, hG2, rfl⟩
  · have q' : ¬ ¬ nI F.1 = 0 := q
    rw [nI_z (by omega)] at q'
    refine pm_J.rf ?_
    rw [← hO]
    exact Or.inl ⟨Classical.not_not.mp q', rfl, rfl⟩
end MDC
end
section
section MDD
variable {l : Launch}
theorem cpF_lt {f g : Nat → Nat} {N n i : Nat} (h : i < n) : cpF f g N n i = f i := by unfold cpF; rw [if_pos h]
def boQ (k a : Nat) (e : Nat → Nat) : Nat → Nat
  | 0 => 0
  | i + 1 => boQ k a e i + b2n (hasT k a (nI (e i)))
def dsI (k a b : Nat) : Int32 := nI (spW k a).1 + nI (spW k b).1 - nI 2 * nI (boQ k a (spW k b).2 (spW k b).1)
theorem d_distance (hs : l.stackTraces = false) (A : mA) (P : mP) (T : mT) (F : mF) (G : mG) (S : mS) (W : mW) (th : Nat) (x y : Int32) (hk : T.1 ≤ 7) (hG : GJ G) :
    pm_Met l mX6_distance 3 0 0 [.ref 0, .int x, .int y] (moW A P T F G S W th) (fun o w' => ((okC (tcount T.1) x ∧ okC (tcount T.1) y) ∧ o = .inl (some (.int (dsI T.1 x.toNatClampNeg y.toNatClampNeg))) ∧ moE A P T F W 0 w') ∨ (¬ (okC (tcount T.1) x ∧ okC (tcount T.1) y) ∧ o = .inl (some (.int (nI 0))) ∧ w' = moW A P T F G S W 1)) := by
  generalize hO : (fun (o : pm_O) (w' : List pm_E) => ((okC (tcount T.1) x ∧ okC (tcount T.1) y) ∧ o = .inl (some (.int (dsI T.1 x.toNatClampNeg y.toNatClampNeg))) ∧ moE A P T F W 0 w') ∨ (¬ (okC (tcount T.1) x ∧ okC (tcount T.1) y) ∧ o = .inl (some (.int (nI 0))) ∧ w' = moW A P T F G S W 1)) = O
  have htc := tc_lt hk
  have bad : ¬ (okC (tcount T.1) x ∧ okC (tcount T.1) y) → pm_J l mX6_distance iX6_distance 3 0 0 15 O 0 0 (17, [some (.ref 0), some (.int x), some (.int y), none, none], [.ref 0], moW A P T F G S W th) := by
    intro h
    refine pm_J.run [] 40 (fun K hK => br_f (by decide) (hK _ ?_))
    refine pm_J.ri ?_
    rw [← hO]
    exact Or.inr ⟨h, rfl, rfl⟩
  refine pm_Met.mk kX6_distance hs (pm_J.run [] 40 (fun K hK => hK _ ?_))
  refine pm_J.cI q15 (d_isTree hs A P T F G S W th x hk) gRX6_132 vX6_isTree ?_
  by_cases h : 0 ≤ x ∧ x < nI (tcount T.1)
  · rw [if_pos h]
    refine pm_J.run [17] 40 (fun K hK => br_f (by decide) (hK _ ?_))
    refine pm_J.cI q15 (d_isTree hs A P T F G S W th y hk) gRX6_132 vX6_isTree ?_
    by_cases h2 : 0 ≤ y ∧ y < nI (tcount T.1)
    · rw [if_pos h2]
      obtain ⟨a, ha, rfl⟩ := ok_nat (by omega) h
      obtain ⟨b, hb, rfl⟩ := ok_nat (by omega) h2
      have hO2 : ∀ w', moE A P T F W 0 w' → O (.inl (some (.int (dsI T.1 a b)))) w' := fun w' hw => by
        rw [← hO]
        exact Or.inl ⟨⟨h, h2⟩, by rw [nI_clamp (by omega), nI_clamp (by omega)], hw⟩
      clear hO bad
      refine pm_J.run [17] 40 (fun K hK => br_t (by decide) (br_t (by decide) (hK _ ?_)))
      refine pm_J.cv q15 (moW A P T F (gwD T.1 b (gwR T.1 b).1 G.2.2.2.2.2) (gwP T.1 b S) W 0) (d_growD hs A P T F G S W 0 b hk hb hG) gRX6_135 vX6_grow ?_
      have hGb : GJ (gwD T.1 b (gwR T.1 b).1 G.2.2.2.2.2) := gwD_GJ hk (gwR_Bz hk) hG.2
      generalize gwD T.1 b (gwR T.1 b).1 G.2.2.2.2.2 = Gb at hGb ⊢
      have en := gwP_n T.1 b S
      have ee : ∀ i, i < (spW T.1 b).1 → (gwP T.1 b S).2.1 i = (spW T.1 b).2 i := fun i hi => gwP_e S hi
      have e2 : (gwP T.1 b S).2.2 = S.2.2 := rfl
      have hle := spW_le (a := b) hk
      generalize gwP T.1 b S = Sb at en ee e2 ⊢
      obtain ⟨n, e, os⟩ := Sb
      dsimp only at en ee e2
      subst e2 en
      generalize hSb : (spW T.1 b).1 = n at hle ee ⊢
      refine pm_J.run [49] 60 (fun K hK => hK _ ?_)
      have copy : pm_J l mX6_distance iX6_distance 3 0 0 15 O 0 0 (49, [some (.ref 0), some (.int (nI a)), some (.int (nI b)), some (.int (nI 0)), none], [], moW A P T F Gb (n, e, n, cpF e S.2.2.2 8 0) W 0) := by
        refine pm_up (b := n) (P := fun i => pm_J l mX6_distance iX6_distance 3 0 0 15 O 0 0 (49, [some (.ref 0), some (.int (nI a)), some (.int (nI b)), some (.int (nI i)), none], [], moW A P T F Gb (n, e, n, cpF e S.2.2.2 8 i) W 0)) 0 (Nat.zero_le _) ?_ (fun i g1 g2 ih => ?_)
        · refine pm_J.run [] 60 (fun K hK => br_t (nI_le (Nat.le_refl _) (by omega)) (hK _ ?_))
          generalize hes : cpF e S.2.2.2 8 n = es
          refine pm_J.cv q15 (moW A P T F (gwD T.1 a (gwR T.1 a).1 Gb.2.2.2.2.2) (gwP T.1 a (n, e, n, es)) W 0) (d_growD hs A P T F Gb (n, e, n, es) W 0 a hk ha hGb) gRX6_135 vX6_grow ?_
          have hGa : GJ (gwD T.1 a (gwR T.1 a).1 Gb.2.2.2.2.2) := gwD_GJ hk (gwR_Bz hk) hGb.2
          generalize gwD T.1 a (gwR T.1 a).1 Gb.2.2.2.2.2 = Ga at hGa ⊢
          refine pm_J.run [85] 60 (fun K hK => hK _ ?_)
          have cnt : pm_J l mX6_distance iX6_distance 3 0 0 15 O 0 0 (85, [some (.ref 0), some (.int (nI a)), some (.int (nI b)), some (.int (nI (boQ T.1 a (spW T.1 b).2 0))), some (.int (nI 0))], [], moW A P T F Ga (gwP T.1 a (n, e, n, es)) W 0) := by
            refine pm_up (b := n) (P := fun i => pm_J l mX6_distance iX6_distance 3 0 0 15 O 0 0 (85, [some (.ref 0), some (.int (nI a)), some (.int (nI b)), some (.int (nI (boQ T.1 a (spW T.1 b).2 i))), some (.int (nI i))], [], moW A P T F Ga (gwP T.1 a (n, e, n, es)) W 0)) 0 (Nat.zero_le _) ?_ (fun i f1 f2 ih2 => ?_)
            · refine pm_J.run [] 60 (fun K hK => br_t (nI_le (Nat.le_refl _) (by omega)) (hK _ ?_))
              refine pm_J.ri ?_
              have := hO2 (moW A P T F Ga (gwP T.1 a (n, e, n, es)) W 0) ⟨_, _, hGa, rfl⟩
              unfold dsI at this
              rw [hSb, ← gwP_n T.1 a (n, e, n, es)] at this
              exact this
            · have hh : es i = (spW T.1 b).2 i := by rw [← hes, cpF_lt f2, ee i f2]
              refine pm_J.run [] 60 (fun K hK => br_f (nI_ge (a := i) (b := n) f2 (by omega)) (And.intro (vp_in_nI (by omega) (by decide)) (hK _ ?_)))
              rw [nI_clamp (by omega)]
              refine pm_J.cI q15 (d_hasP hs A P T F Ga (n, e, n, es) W 0 T.1 a (nI (es i)) hk) gRX6_145 vX6_hasSplit ?_
              have e3 : boQ T.1 a (spW T.1 b).2 (i + 1) = boQ T.1 a (spW T.1 b).2 i + b2n (hasT T.1 a (nI (es i))) := by rw [hh]; rfl
              rw [e3, ← nI_add i 1] at ih2
              cases hq : hasT T.1 a (nI (es i)) with
              | true =>
                rw [hq] at ih2
                have ih2 : pm_J l mX6_distance iX6_distance 3 0 0 15 O 0 0 (85, [some (.ref 0), some (.int (nI a)), some (.int (nI b)), some (.int (nI (boQ T.1 a (spW T.1 b).2 i + 1))), some (.int (nI i + nI 1))], [], moW A P T F Ga (gwP T.1 a (n, e, n, es)) W 0) := ih2
                rw [← nI_add (boQ T.1 a (spW T.1 b).2 i) 1] at ih2
                refine pm_J.run [85] 40 (fun K hK => br_f (by decide) (hK _ ?_))
                exact ih2
              | false =>
                rw [hq] at ih2
                refine pm_J.run [85] 40 (fun K hK => br_t (by decide) (hK _ ?_))
                exact ih2
          exact cnt
        · have ii : vp_in (nI i) 8 := vp_in_nI (by omega) (by decide)
          rw [cpF_s _ _ _ i] at ih
          unfold moW at ih
          dsimp only at ih
          rw [← nA_upd (cpF e S.2.2.2 8 i), ← nI_add i 1] at ih
          refine pm_J.run [49] 60 (fun K hK => br_f (nI_ge g2 (by omega)) (And.intro ii (And.intro ii (hK _ ?_))))
          rw [nI_clamp (by omega)]
          exact ih
      rw [cpF_0] at copy
      exact copy
    · rw [if_neg h2]
      refine pm_J.run [17] 40 (fun K hK => br_f (by decide) (hK _ ?_))
      exact bad (fun z => h2 z.2)
  · rw [if_neg h]
    refine pm_J.run [17] 40 (fun K hK => br_t (by decide) (hK _ ?_))
    exact bad (fun z => h z.1)
theorem bit_gen {x k : Nat} (hx : x < 2 ^ 31) (hk : k < 31) : (nI x >>> (nI k &&& 31)) &&& pm_k 1 = nI (x / 2 ^ k % 2) := by
  show (nI x >>> (nI k &&& 31)) &&& nI 1 = nI (x / 2 ^ k % 2)
  rw [pk_shrN hx _ k (s_l k (by omega)), pk_andN (Nat.lt_of_le_of_lt (Nat.div_le_self _ _) (by omega)) 1 (by decide +kernel)]
def onS (s : Nat) : Nat → Nat
  | 0 => 0
  | k + 1 => onS s k + s / 2 ^ k % 2
theorem d_ones (hs : l.stackTraces = false) (s : Nat) (h : s < 2 ^ 31) : pm_Met l mX6_ones 1 0 0 [.int (nI s)] [] (isI (nI (onS s 8)) []) := by
  refine pm_Met.mk kX6_ones hs (pm_J.run [4] 40 (fun K hK => hK _ ?_))
  refine pm_up (b := 8) (P := fun k => pm_J l mX6_ones iX6_ones 1 0 0 0 (isI (nI (onS s 8)) []) 0 0 (4, [some (.int (nI s)), some (.int (nI (onS s k))), some (.int (nI k))], [], [])) 0 (by decide) ?_ (fun k h1 h2 ih => ?_)
  · refine pm_J.run [] 40 (fun K hK => br_t (nI_le (a := 8) (b := 8) (by decide) (by decide)) (hK _ ?_))
    exact pm_J.ri ⟨rfl, rfl⟩
  · have e : onS s (k + 1) = onS s k + s / 2 ^ k % 2 := rfl
    rw [e, ← nI_add (onS s k), ← bit_gen h (by omega), ← nI_add k 1] at ih
    refine pm_J.run [4] 40 (fun K hK => br_f (nI_ge (a := k) (b := 8) h2 (by decide)) (hK _ ?_))
    exact ih
end MDD
end
section
section MDE
variable {l : Launch}
def meQ (stt : Nat → Nat) (c s : Nat) : Nat → Bool
  | 0 => true
  | k + 1 => meQ stt c s k && ((stt (16 * k + c) &&& s) != 0)
def fwQ (stt : Nat → Nat) (kn c : Nat) : Nat → Nat
  | 0 => 4
  | s + 1 => if s = 0 then 4 else if meQ stt c s kn then min (fwQ stt kn c s) (onS s 8) else fwQ stt kn c s
theorem fwQ_le (stt : Nat → Nat) (kn c : Nat) : ∀ s, fwQ stt kn c s ≤ 4
  | 0 => Nat.le_refl _
  | s + 1 => by
    have := fwQ_le stt kn c s
    unfold fwQ
    split
    · omega
    · split
      · exact Nat.le_trans (Nat.min_le_left _ _) this
      · exact this
theorem onS_pos {s : Nat} (h0 : 0 < s) (h : s < 16) : 0 < onS s 8 := by
  have hq : ∀ s, s < 16 → 0 < s → 0 < onS s 8 := by decide
  exact hq s h h0
theorem fwQ_pos (stt : Nat → Nat) (kn c : Nat) : ∀ s, s ≤ 16 → 1 ≤ fwQ stt kn c s
  | 0, _ => (by decide : 1 ≤ 4)
  | s + 1, h => by
    have := fwQ_pos stt kn c s (by omega)
    unfold fwQ
    split
    · omega
    · split
      · have := onS_pos (s := s) (by omega) (by omega)
        omega
      · exact this
theorem d_leastOf (hs : l.stackTraces = false) (A : mA) (P : mP) (T : mT) (F : mF) (G : mG) (S : mS) (W : mW) (th c : Nat) (hT : TbI T) (hcT : c < T.2.1) :
    pm_Met l mX6_leastOf 2 0 0 [.ref 0, .int (nI c)] (moW A P T F G S W th) (isI (nI (fwQ T.2.2.1 T.1 c 16 - 1)) (moW A P T F G S W th)) := by
  have hc : c < 16 := by have := hT.2.1; omega
  generalize hO : isI (nI (fwQ T.2.2.1 T.1 c 16 - 1)) (moW A P T F G S W th) = O
  have hk := hT.1
  refine pm_Met.mk kX6_leastOf hs (pm_J.run [4] 40 (fun K hK => hK _ ?_))
  have key : ∀ x4 x5 : Option Value, pm_J l mX6_leastOf iX6_leastOf 2 0 0 15 O 0 0 (4, [some (.ref 0), some (.int (nI c)), some (.int (nI (fwQ T.2.2.1 T.1 c 1))), some (.int (nI 1)), x4, x5], [], moW A P T F G S W th) := by
    refine pm_up (b := 16) (P := fun s => ∀ x4 x5 : Option Value, pm_J l mX6_leastOf iX6_leastOf 2 0 0 15 O 0 0 (4, [some (.ref 0), some (.int (nI c)), some (.int (nI (fwQ T.2.2.1 T.1 c s))), some (.int (nI s)), x4, x5], [], moW A P T F G S W th)) 1 (by decide) (fun x4 x5 => ?_) (fun s h1 h2 ih x4 x5 => ?_)
    · refine pm_J.run [] 40 (fun K hK => br_t (nI_le (a := 16) (b := 16) (by decide) (by decide)) (hK _ ?_))
      refine pm_J.ri ?_
      rw [← hO, ← pk_sub (fwQ_pos T.2.2.1 T.1 c 16 (by decide))]
      exact ⟨rfl, rfl⟩
    · have e : fwQ T.2.2.1 T.1 c (s + 1) = if meQ T.2.2.1 c s T.1 then min (fwQ T.2.2.1 T.1 c s) (onS s 8) else fwQ T.2.2.1 T.1 c s := by rw [fwQ, if_neg (by omega)]
      rw [e, ← nI_add s 1] at ih
      clear e
      have hle := fwQ_le T.2.2.1 T.1 c s
      have hon : onS s 8 < 2 ^ 31 := by
        have hq : ∀ s, s < 16 → onS s 8 < 2 ^ 31 := by decide
        exact hq s h2
      refine pm_J.run [16] 40 (fun K hK => br_f (nI_ge (a := s) (b := 16) h2 (by decide)) (hK _ ?_))
      refine pm_up (b := T.1) (P := fun k => pm_J l mX6_leastOf iX6_leastOf 2 0 0 15 O 0 0 (16, [some (.ref 0), some (.int (nI c)), some (.int (nI (fwQ T.2.2.1 T.1 c s))), some (.int (nI s)), some (.int (nI (b2n (meQ T.2.2.1 c s k)))), some (.int (nI k))], [], moW A P T F G S W th)) 0 (Nat.zero_le _) ?_ (fun k g1 g2 ih2 => ?_)
      · cases hm : meQ T.2.2.1 c s T.1 with
        | true =>
          rw [hm, if_pos rfl] at ih
          refine pm_J.run [4] 40 (fun K hK => br_t (nI_le (Nat.le_refl _) (by omega)) (br_f (by decide) (hK _ ?_)))
          refine pm_J.cis (d_ones hs s (by omega)) gRX6_154 vX6_ones ?_
          refine pm_J.cis (d_least hs (fwQ T.2.2.1 T.1 c s) (onS s 8) (by omega) hon) gRX6_126 vX6_least ?_
          refine pm_J.run [4] 40 (fun K hK => hK _ ?_)
          exact ih _ _
        | false =>
          rw [hm, if_neg Bool.false_ne_true] at ih
          refine pm_J.run [4] 40 (fun K hK => br_t (nI_le (Nat.le_refl _) (by omega)) (br_t (by decide) (hK _ ?_)))
          exact ih _ _
      · have e : meQ T.2.2.1 c s (k + 1) = (meQ T.2.2.1 c s k && ((T.2.2.1 (16 * k + c) &&& s) != 0)) := rfl
        rw [e, ← nI_add k 1] at ih2
        clear e
        cases hm : meQ T.2.2.1 c s k with
        | false =>
          rw [hm, Bool.false_and] at ih2
          refine pm_J.run [16] 40 (fun K hK => br_f (nI_ge g2 (by omega)) (br_t (by decide) (hK _ ?_)))
          exact ih2
        | true =>
          rw [hm, Bool.true_and] at ih2
          have e16 : pm_k 16 * nI k + nI c = nI (16 * k + c) := by
            show nI 16 * nI k + nI c = _
            rw [pk_mul, nI_add]
          have hb := hT.2.2 k c (by omega) hcT
          have hlt : T.2.2.1 (16 * k + c) &&& s < 2 ^ 31 := Nat.lt_of_le_of_lt Nat.and_le_left (by omega)
          refine pm_J.run [16] 40 (fun K hK => br_f (nI_ge g2 (by omega)) (br_f (by decide) (And.intro (by rw [e16]; exact vp_in_nI (by omega) (by decide)) (And.intro (fun q => hK _ ?_) (fun q => hK _ ?_)))))
          · have q' : (nI (T.2.2.1 (pm_k 16 * nI k + nI c).toNatClampNeg) &&& nI s) = 0 := q
            rw [e16, nI_clamp (by omega), nx_and, nI_z hlt] at q'
            rw [q'] at ih2
            exact ih2
          · have q' : ¬ (nI (T.2.2.1 (pm_k 16 * nI k + nI c).toNatClampNeg) &&& nI s) = 0 := q
            rw [e16, nI_clamp (by omega), nx_and, nI_z hlt] at q'
            have e : ((T.2.2.1 (16 * k + c) &&& s) != 0) = true := by simp [q']
            rw [e] at ih2
            exact ih2
  exact key none none
def hvQ (stt : Nat → Nat) (c st : Nat) : Nat → Nat
  | 0 => 0
  | k + 1 => hvQ stt c st k + stt (16 * k + c) / 2 ^ st % 2
theorem hvQ_le (stt : Nat → Nat) (c st : Nat) : ∀ k, hvQ stt c st k ≤ k
  | 0 => Nat.le_refl _
  | k + 1 => by have := hvQ_le stt c st k; unfold hvQ; omega
def mxQ (stt : Nat → Nat) (kn c : Nat) : Nat → Nat
  | 0 => 0
  | st + 1 => max (mxQ stt kn c st) (hvQ stt c st kn)
theorem mxQ_le (stt : Nat → Nat) (kn c : Nat) : ∀ st, mxQ stt kn c st ≤ kn
  | 0 => Nat.zero_le _
  | st + 1 => by have := mxQ_le stt kn c st; have := hvQ_le stt c st kn; unfold mxQ; omega
theorem d_mostOf (hs : l.stackTraces = false) (A : mA) (P : mP) (T : mT) (F : mF) (G : mG) (S : mS) (W : mW) (th c : Nat) (hT : TbI T) (hcT : c < T.2.1) :
    pm_Met l mX6_mostOf 2 0 0 [.ref 0, .int (nI c)] (moW A P T F G S W th) (isI (nI (T.1 - mxQ T.2.2.1 T.1 c 4)) (moW A P T F G S W th)) := by
  have hc : c < 16 := by have := hT.2.1; omega
  generalize hO : isI (nI (T.1 - mxQ T.2.2.1 T.1 c 4)) (moW A P T F G S W th) = O
  have hk := hT.1
  refine pm_Met.mk kX6_mostOf hs (pm_J.run [4] 40 (fun K hK => hK _ ?_))
  have key : ∀ x4 x5 : Option Value, pm_J l mX6_mostOf iX6_mostOf 2 0 0 15 O 0 0 (4, [some (.ref 0), some (.int (nI c)), some (.int (nI (mxQ T.2.2.1 T.1 c 0))), some (.int (nI 0)), x4, x5], [], moW A P T F G S W th) := by
    refine pm_up (b := 4) (P := fun s => ∀ x4 x5 : Option Value, pm_J l mX6_mostOf iX6_mostOf 2 0 0 15 O 0 0 (4, [some (.ref 0), some (.int (nI c)), some (.int (nI (mxQ T.2.2.1 T.1 c s))), some (.int (nI s)), x4, x5], [], moW A P T F G S W th)) 0 (by decide) (fun x4 x5 => ?_) (fun s h1 h2 ih x4 x5 => ?_)
    · refine pm_J.run [] 40 (fun K hK => br_t (nI_le (a := 4) (b := 4) (by decide) (by decide)) (hK _ ?_))
      refine pm_J.ri ?_
      rw [← hO, ← pk_sub (mxQ_le T.2.2.1 T.1 c 4)]
      exact ⟨rfl, rfl⟩
    · have e : mxQ T.2.2.1 T.1 c (s + 1) = max (mxQ T.2.2.1 T.1 c s) (hvQ T.2.2.1 c s T.1) := rfl
      rw [e, ← nI_add s 1] at ih
      clear e
      have hle := mxQ_le T.2.2.1 T.1 c s
      have hl2 := hvQ_le T.2.2.1 c s T.1
      refine pm_J.run [15] 40 (fun K hK => br_f (nI_ge (a := s) (b := 4) h2 (by decide)) (hK _ ?_))
      refine pm_up (b := T.1) (P := fun k => pm_J l mX6_mostOf iX6_mostOf 2 0 0 15 O 0 0 (15, [some (.ref 0), some (.int (nI c)), some (.int (nI (mxQ T.2.2.1 T.1 c s))), some (.int (nI s)), some (.int (nI (hvQ T.2.2.1 c s k))), some (.int (nI k))], [], moW A P T F G S W th)) 0 (Nat.zero_le _) ?_ (fun k g1 g2 ih2 => ?_)
      · refine pm_J.run [4] 40 (fun K hK => br_t (nI_le (Nat.le_refl _) (by omega)) (And.intro (fun q => hK _ ?_) (fun q => hK _ ?_)))
        · have q' : nI (hvQ T.2.2.1 c s T.1) ≤ nI (mxQ T.2.2.1 T.1 c s) := q
          rw [nI_leI (by omega) (by omega)] at q'
          rw [Nat.max_eq_left q'] at ih
          exact ih _ _
        · have q' : ¬ nI (hvQ T.2.2.1 c s T.1) ≤ nI (mxQ T.2.2.1 T.1 c s) := q
          rw [nI_leI (by omega) (by omega)] at q'
          rw [Nat.max_eq_right (by omega)] at ih
          exact ih _ _
      · have e16 : pm_k 16 * nI k + nI c = nI (16 * k + c) := by
          show nI 16 * nI k + nI c = _
          rw [pk_mul, nI_add]
        have hb := hT.2.2 k c (by omega) hcT
        have e : hvQ T.2.2.1 c s (k + 1) = hvQ T.2.2.1 c s k + T.2.2.1 (16 * k + c) / 2 ^ s % 2 := rfl
        rw [e, ← nI_add (hvQ T.2.2.1 c s k), ← bit_at16 hb h2, ← nI_add k 1] at ih2
        refine pm_J.run [15] 40 (fun K hK => br_f (nI_ge g2 (by omega)) (And.intro (by rw [e16]; exact vp_in_nI (by omega) (by decide)) (hK _ ?_)))
        rw [e16, nI_clamp (by omega)]
        exact ih2
  exact key none none
def smQ (T : mT) (m : Bool) : Nat → Nat
  | 0 => 0
  | c + 1 => smQ T m c + T.2.2.2 c * (if m then T.1 - mxQ T.2.2.1 T.1 c 4 else fwQ T.2.2.1 T.1 c 16 - 1)
theorem d_sum (hs : l.stackTraces = false) (A : mA) (P : mP) (T : mT) (F : mF) (G : mG) (S : mS) (W : mW) (th : Nat) (m : Bool) (hT : TbI T) :
    pm_Met l mX6_sum 3 0 0 [.ref 0, .int (nI (b2n m))] (moW A P T F G S W th) (isI (nI (smQ T m T.2.1)) (moW A P T F G S W th)) := by
  have hc := hT.2.1
  refine pm_Met.mk kX6_sum hs (pm_J.run [4] 40 (fun K hK => hK _ ?_))
  refine pm_up (b := T.2.1) (P := fun c => pm_J l mX6_sum iX6_sum 3 0 0 15 (isI (nI (smQ T m T.2.1)) (moW A P T F G S W th)) 0 0 (4, [some (.ref 0), some (.int (nI (b2n m))), some (.int (nI (smQ T m c))), some (.int (nI c))], [], moW A P T F G S W th)) 0 (Nat.zero_le _) ?_ (fun c h1 h2 ih => ?_)
  · refine pm_J.run [] 40 (fun K hK => br_t (nI_le (Nat.le_refl _) (by omega)) (hK _ ?_))
    exact pm_J.ri ⟨rfl, rfl⟩
  · have e : smQ T m (c + 1) = smQ T m c + T.2.2.2 c * (if m then T.1 - mxQ T.2.2.1 T.1 c 4 else fwQ T.2.2.1 T.1 c 16 - 1) := rfl
    rw [e, ← nI_add (smQ T m c), ← pk_mul, ← nI_add c 1] at ih
    clear e
    generalize smQ T m T.2.1 = r at ih ⊢
    cases m with
    | true =>
      rw [if_pos rfl] at ih
      refine pm_J.run [] 40 (fun K hK => br_f (nI_ge h2 (by omega)) (And.intro (vp_in_nI (by omega) (by decide)) (br_f (by decide) (hK _ ?_))))
      rw [nI_clamp (by omega)]
      refine pm_J.cI q15 (d_mostOf hs A P T F G S W th c hT (by omega)) gRX6_157 vX6_mostOf ?_
      refine pm_J.run [4] 40 (fun K hK => hK _ ?_)
      exact ih
    | false =>
      rw [if_neg Bool.false_ne_true] at ih
      refine pm_J.run [] 40 (fun K hK => br_f (nI_ge h2 (by omega)) (And.intro (vp_in_nI (by omega) (by decide)) (br_t (by decide) (hK _ ?_))))
      rw [nI_clamp (by omega)]
      refine pm_J.cI q15 (d_leastOf hs A P T F G S W th c hT (by omega)) gRX6_160 vX6_leastOf ?_
      refine pm_J.run [4] 40 (fun K hK => hK _ ?_)
      exact ih
theorem d_consistency (hFP : FPd) (hs : l.stackTraces = false) (A : mA) (P : mP) (T : mT) (F : mF) (G : mG) (S : mS) (W : mW) (th : Nat) (x : Int32) (hT : TbI T) (hN : NdOk T) (hw : Bd T.2.2.2) (hG : GJ G) :
    pm_Met l mX6_consistency 5 0 0 [.ref 0, .int x] (moW A P T F G S W th) (fun o w' => (okC (tcount T.1) x ∧ o = .inl (some (.float (coF (smQ T false T.2.1) (lnV T x.toNatClampNeg)))) ∧ moE A P T F W 0 w') ∨ (¬ okC (tcount T.1) x ∧ o = .inl (some (.float FP.fconst0)) ∧ w' = moW A P T F G S W 1)) := by
  generalize hO : (fun (o : pm_O) (w' : List pm_E) => (okC (tcount T.1) x ∧ o = .inl (some (.float (coF (smQ T false T.2.1) (lnV T x.toNatClampNeg)))) ∧ moE A P T F W 0 w') ∨ (¬ okC (tcount T.1) x ∧ o = .inl (some (.float FP.fconst0)) ∧ w' = moW A P T F G S W 1)) = O
  have hk := hT.1
  have htc := tc_lt hk
  refine pm_Met.mk kX6_consistency hs (pm_J.run [] 40 (fun K hK => hK _ ?_))
  refine pm_J.cI q15 (d_isTree hs A P T F G S W th x hk) gRX6_132 vX6_isTree ?_
  by_cases h : 0 ≤ x ∧ x < nI (tcount T.1)
  · rw [if_pos h]
    obtain ⟨a, ha, rfl⟩ := ok_nat (by omega) h
    refine pm_J.run [] 40 (fun K hK => br_f (by decide) (br_t (by decide) (hK _ ?_)))
    refine pm_J.cR q15 (d_lengthOf hs A P T F G S W 0 a hT hN ha hG) gRX6_142 vX6_lengthOf (fun E w1 z => by cases z.1) (fun v w1 z => ?_)
    obtain ⟨z1, rd, co, hr, hco, rfl⟩ := z
    cases z1
    show pm_J l mX6_consistency iX6_consistency 5 0 0 15 O 0 0 (31, [some (.ref 0), some (.int (nI a)), none], [.int (nI (lnV T a))], moW A P T F (gwD T.1 a rd co) (gwP T.1 a S) W 0)
    have hll : lnV T a < 2 ^ 31 := by
      have h1 := lnS_le (x := a) hw T.2.1
      have h2 : T.2.1 * 12573 ≤ 16 * 12573 := Nat.mul_le_mul_right _ hT.2.1
      show lnS T a T.2.1 < 2 ^ 31
      omega
    have hGd : GJ (gwD T.1 a rd co) := gwD_GJ hk hr hco
    have hO2 : ∀ v, coF (smQ T false T.2.1) (lnV T a) = v → O (.inl (some (.float v))) (moW A P T F (gwD T.1 a rd co) (gwP T.1 a S) W 0) := fun v hv => by
      rw [← hO]
      exact Or.inl ⟨h, by rw [nI_clamp (by omega), hv], _, _, hGd, rfl⟩
    refine pm_J.run [] 40 (fun K hK => And.intro (fun q => hK _ ?_) (fun q => hK _ ?_))
    · have q' : ¬ nI (lnV T a) = 0 := q
      have q2 := q'
      rw [nI_z hll] at q2
      refine pm_J.cI q15 (d_sum hs A P T F (gwD T.1 a rd co) (gwP T.1 a S) W 0 false hT) gRX6_163 vX6_sum ?_
      refine pm_J.run [] 40 (fun K hK => And.intro (hFP _ _ q') (hK _ ?_))
      refine pm_J.rf (hO2 _ ?_)
      rw [coF, if_neg q2]
    · have q' : ¬ ¬ nI (lnV T a) = 0 := q
      rw [nI_z hll] at q'
      refine pm_J.rf (hO2 _ ?_)
      rw [coF, if_pos (Classical.not_not.mp q')]
  · rw [if_neg h]
    refine pm_J.run [] 40 (fun K hK => br_t (by decide) (br_f (by decide) (hK _ ?_)))
    refine pm_J.rf ?_
    rw [← hO]
    exact Or.inr ⟨h, rfl, rfl⟩
theorem d_retention (hFP : FPd) (hs : l.stackTraces = false) (A : mA) (P : mP) (T : mT) (F : mF) (G : mG) (S : mS) (W : mW) (th : Nat) (x : Int32) (hT : TbI T) (hN : NdOk T) (hG : GJ G) :
    pm_Met l mX6_retention 5 0 0 [.ref 0, .int x] (moW A P T F G S W th) (fun o w' => (okC (tcount T.1) x ∧ o = .inl (some (.float (reF (smQ T true T.2.1) (smQ T false T.2.1) (lnV T x.toNatClampNeg)))) ∧ moE A P T F W 0 w') ∨ (¬ okC (tcount T.1) x ∧ o = .inl (some (.float FP.fconst0)) ∧ w' = moW A P T F G S W 1)) := by
  generalize hO : (fun (o : pm_O) (w' : List pm_E) => (okC (tcount T.1) x ∧ o = .inl (some (.float (reF (smQ T true T.2.1) (smQ T false T.2.1) (lnV T x.toNatClampNeg)))) ∧ moE A P T F W 0 w') ∨ (¬ okC (tcount T.1) x ∧ o = .inl (some (.float FP.fconst0)) ∧ w' = moW A P T F G S W 1)) = O
  have hk := hT.1
  have htc := tc_lt hk
  refine pm_Met.mk kX6_retention hs (pm_J.run [] 40 (fun K hK => hK _ ?_))
  refine pm_J.cI q15 (d_isTree hs A P T F G S W th x hk) gRX6_132 vX6_isTree ?_
  by_cases h : 0 ≤ x ∧ x < nI (tcount T.1)
  · rw [if_pos h]
    obtain ⟨a, ha, rfl⟩ := ok_nat (by omega) h
    refine pm_J.run [] 40 (fun K hK => br_f (by decide) (br_t (by decide) (hK _ ?_)))
    refine pm_J.cI q15 (d_sum hs A P T F G S W 0 true hT) gRX6_163 vX6_sum ?_
    refine pm_J.run [] 40 (fun K hK => hK _ ?_)
    refine pm_J.cI q15 (d_sum hs A P T F G S W 0 false hT) gRX6_163 vX6_sum ?_
    have hsub : ∀ y z : Int32, y - z = 0 ↔ y = z := fun y z => ⟨fun e => by rw [← Int32.sub_add_cancel y z, e, Int32.zero_add], fun e => by rw [e, Int32.sub_self]⟩
    refine pm_J.run [] 40 (fun K hK => And.intro (fun q => hK _ ?_) (fun q => hK _ ?_))
    · have q' : ¬ nI (smQ T true T.2.1) = nI (smQ T false T.2.1) := q
      have q2 : ¬ nI (smQ T true T.2.1) - nI (smQ T false T.2.1) = 0 := fun z => q' ((hsub _ _).mp z)
      refine pm_J.cR q15 (d_lengthOf hs A P T F G S W 0 a hT hN ha hG) gRX6_142 vX6_lengthOf (fun E w1 z => by cases z.1) (fun v w1 z => ?_)
      obtain ⟨z1, rd, co, hr, hco, rfl⟩ := z
      cases z1
      show pm_J l mX6_retention iX6_retention 5 0 0 15 O 0 0 (53, [some (.ref 0), some (.int (nI a)), some (.int (nI (smQ T true T.2.1))), some (.int (nI (smQ T false T.2.1)))], [.int (nI (lnV T a)), .int (nI (smQ T true T.2.1))], moW A P T F (gwD T.1 a rd co) (gwP T.1 a S) W 0)
      refine pm_J.run [] 40 (fun K hK => And.intro (hFP _ _ q2) (hK _ ?_))
      refine pm_J.rf ?_
      rw [← hO]
      exact Or.inl ⟨h, by rw [nI_clamp (by omega), reF, if_neg q2], _, _, gwD_GJ hk hr hco, rfl⟩
    · have q' : ¬ ¬ nI (smQ T true T.2.1) = nI (smQ T false T.2.1) := q
      have q2 : nI (smQ T true T.2.1) - nI (smQ T false T.2.1) = 0 := (hsub _ _).mpr (Classical.not_not.mp q')
      refine pm_J.rf ?_
      rw [← hO]
      exact Or.inl ⟨h, by rw [reF, if_pos q2], _, _, hG, rfl⟩
  · rw [if_neg h]
    refine pm_J.run [] 40 (fun K hK => br_t (by decide) (br_f (by decide) (hK _ ?_)))
    refine pm_J.rf ?_
    rw [← hO]
    exact Or.inr ⟨h, rfl, rfl⟩
end MDE
end
section
section MDF
variable {l : Launch}
theorem onS_le (s : Nat) : ∀ k, onS s k ≤ k
  | 0 => Nat.le_refl _
  | k + 1 => by have := onS_le s k; unfold onS; omega
theorem d_put (hs : l.stackTraces = false) (A : mA) (P : mP) (T : mT) (F : mF) (G : mG) (S : mS) (sz : Nat) (wr : Nat → Nat) (op : Nat → Int32) (th v : Nat) (hz : sz < 64) (hv : v < 65536) :
    pm_Met l mX6_put 1 0 0 [.ref 0, .int (nI v)] (moW A P T F G S (sz, wr, op) th) (isO none (moW A P T F G S (sz + 1, upN wr sz v, op) th)) := by
  refine pm_Met.mk kX6_put hs (pm_J.run [] 40 (fun K hK => And.intro (vp_in_nI hz (by decide)) (hK _ ?_)))
  rw [i2c_at hv, nar_char hv, nI_clamp (by omega)]
  refine pm_J.rv ⟨rfl, ?_⟩
  unfold moW
  dsimp only
  rw [← nA_upd wr, ← nI_add sz 1]
  rfl
def paC (wh kd p s : Nat) : Bool := decide (s &&& (wh ^^^ 4294967295) = 0) && (decide (¬ s = wh) && (decide (s / 2 ^ kd % 2 = 1) && decide (onS p 8 < onS s 8)))
def paS (e : Nat → Nat) (wh kd : Nat) : Nat → Nat
  | 0 => 2 ^ kd
  | k + 1 => if paC wh kd (paS e wh kd k) (e k) then e k else paS e wh kd k
theorem paS_lt {e : Nat → Nat} {wh kd n : Nat} (he : ∀ i, i < n → e i < 256) (hk : kd < 7) : ∀ k, k ≤ n → paS e wh kd k < 256
  | 0, _ => by
    have : 2 ^ kd < 2 ^ 8 := Nat.pow_lt_pow_right (by decide) (by omega)
    show 2 ^ kd < 256
    omega
  | k + 1, h => by
    unfold paS
    split
    · exact he k (by omega)
    · exact paS_lt he hk k (by omega)
theorem nI_not (wh : Nat) : nI wh ^^^ pm_k (-1) = nI (wh ^^^ 4294967295) := by
  rw [show pm_k (-1) = nI 4294967295 by decide +kernel, nx_xor]
set_option maxHeartbeats 1000000 in
theorem d_part (hs : l.stackTraces = false) (A : mA) (P : mP) (T : mT) (F : mF) (G : mG) (S : mS) (W : mW) (th wh kd : Nat) (hn : S.1 ≤ 8) (he : ∀ i, i < S.1 → S.2.1 i < 256) (hw : wh < 256) (hk : kd < 7) :
    pm_Met l mX6_part 2 0 0 [.ref 0, .int (nI wh), .int (nI kd)] (moW A P T F G S W th) (isI (nI (paS S.2.1 wh kd S.1)) (moW A P T F G S W th)) := by
  generalize hO : isI (nI (paS S.2.1 wh kd S.1)) (moW A P T F G S W th) = O
  refine pm_Met.mk kX6_part hs (pm_J.run [7] 40 (fun K hK => hK _ ?_))
  have key : ∀ x5 : Option Value, pm_J l mX6_part iX6_part 2 0 0 15 O 0 0 (7, [some (.ref 0), some (.int (nI wh)), some (.int (nI kd)), some (.int (nI (paS S.2.1 wh kd 0))), some (.int (nI 0)), x5], [], moW A P T F G S W th) := by
    refine pm_up (b := S.1) (P := fun k => ∀ x5 : Option Value, pm_J l mX6_part iX6_part 2 0 0 15 O 0 0 (7, [some (.ref 0), some (.int (nI wh)), some (.int (nI kd)), some (.int (nI (paS S.2.1 wh kd k))), some (.int (nI k)), x5], [], moW A P T F G S W th)) 0 (Nat.zero_le _) (fun x5 => ?_) (fun k h1 h2 ih x5 => ?_)
    · refine pm_J.run [] 40 (fun K hK => br_t (nI_le (Nat.le_refl _) (by omega)) (hK _ ?_))
      refine pm_J.ri ?_
      rw [← hO]
      exact ⟨rfl, rfl⟩
    · have hp := paS_lt (wh := wh) he hk k (by omega)
      have hek := he k h2
      have e : paS S.2.1 wh kd (k + 1) = if paC wh kd (paS S.2.1 wh kd k) (S.2.1 k) then S.2.1 k else paS S.2.1 wh kd k := rfl
      rw [e, ← nI_add k 1] at ih
      clear e
      have ih := ih (some (.int (nI (S.2.1 k))))
      generalize paS S.2.1 wh kd k = p at ih hp ⊢
      generalize hsk : S.2.1 k = s at ih hek ⊢
      have skip : paC wh kd p s = false → pm_J l mX6_part iX6_part 2 0 0 15 O 0 0 (65, [some (.ref 0), some (.int (nI wh)), some (.int (nI kd)), some (.int (nI p)), some (.int (nI k)), some (.int (nI s))], [], moW A P T F G S W th) := by
        intro hq
        rw [hq, if_neg Bool.false_ne_true] at ih
        refine pm_J.run [7] 40 (fun K hK => hK _ ?_)
        exact ih
      refine pm_J.run [25] 40 (fun K hK => br_f (nI_ge h2 (by omega)) (And.intro (vp_in_nI (by omega) (by decide)) (hK _ ?_)))
      rw [nI_clamp (by omega)]
      show pm_J l mX6_part iX6_part 2 0 0 15 O 0 0 (25, [some (.ref 0), some (.int (nI wh)), some (.int (nI kd)), some (.int (nI p)), some (.int (nI k)), some (.int (nI (S.2.1 k)))], [], moW A P T F G S W th)
      rw [hsk]
      have o1 := onS_le s 8
      have o2 := onS_le p 8
      refine pm_J.run [65] 60 (fun K hK => And.intro (fun q => hK _ ?_) (fun q => And.intro (fun q2 => hK _ ?_) (fun q2 => And.intro (fun q3 => hK _ ?_) (fun q3 => hK _ ?_))))
      · have q' : ¬ (nI s &&& (nI wh ^^^ pm_k (-1))) = 0 := q
        rw [nI_not, nx_and, nI_z (Nat.lt_of_le_of_lt Nat.and_le_left (by omega))] at q'
        exact skip (by unfold paC; rw [decide_eq_false q']; rfl)
      · have q' : nI s = nI wh := q2
        rw [nI_e256 hek hw] at q'
        exact skip (by unfold paC; rw [decide_eq_false (show ¬ ¬ s = wh from fun z => z q')]; simp)
      · have q' : ¬ ((nI s >>> (nI kd &&& 31)) &&& pm_k 1) = nI 1 := q3
        rw [bit_gen (by omega) (by omega), nI_e128 (by omega) (by decide)] at q'
        exact skip (by unfold paC; rw [decide_eq_false q']; simp)
      · have q1' : ¬ ¬ (nI s &&& (nI wh ^^^ pm_k (-1))) = 0 := q
        rw [nI_not, nx_and, nI_z (Nat.lt_of_le_of_lt Nat.and_le_left (by omega))] at q1'
        have q2' : ¬ nI s = nI wh := q2
        rw [nI_e256 hek hw] at q2'
        have q3' : ¬ ¬ ((nI s >>> (nI kd &&& 31)) &&& pm_k 1) = nI 1 := q3
        rw [bit_gen (by omega) (by omega), nI_e128 (by omega) (by decide)] at q3'
        refine pm_J.cis (d_ones hs s (by omega)) gRX6_154 vX6_ones ?_
        refine pm_J.run [65] 60 (fun K hK => hK _ ?_)
        refine pm_J.cis (d_ones hs p (by omega)) gRX6_154 vX6_ones ?_
        refine pm_J.run [65, 7] 60 (fun K hK => And.intro (fun q4 => hK _ ?_) (fun q4 => hK _ ?_))
        · have q4' : nI (onS s 8) ≤ nI (onS p 8) := q4
          rw [nI_leI (by omega) (by omega)] at q4'
          exact skip (by unfold paC; rw [decide_eq_false (show ¬ onS p 8 < onS s 8 by omega)]; simp)
        · have q4' : ¬ nI (onS s 8) ≤ nI (onS p 8) := q4
          rw [nI_leI (by omega) (by omega)] at q4'
          have hc : paC wh kd p s = true := by unfold paC; rw [decide_eq_true (Classical.not_not.mp q1'), decide_eq_true q2', decide_eq_true (Classical.not_not.mp q3'), decide_eq_true (show onS p 8 < onS s 8 by omega)]; rfl
          rw [hc, if_pos rfl] at ih
          refine pm_J.run [7] 60 (fun K hK => hK _ ?_)
          exact ih
  have := key none
  have e0 : paS S.2.1 wh kd 0 = 2 ^ kd := rfl
  rw [e0, ← nI_shl1 (by omega)] at this
  exact this
/-- spread(): none where the row would be left -/
def sdP (e : Nat → Nat) (ne wh kd : Nat) : Nat := if wh / 2 ^ kd % 2 = 1 then paS e wh kd ne else 0
def sdS (e : Nat → Nat) (ne wh : Nat) : Nat → Nat → (Nat → Nat) → Option (Nat × (Nat → Nat))
  | 0, m, op => some (m, op)
  | j + 1, m, op => if ¬ sdP e ne wh j = 0 ∧ sdP e ne wh j &&& (2 ^ j - 1) = 0 then (if m + 1 < 64 then sdS e ne wh j (m + 2) (upN (upN op m (sdP e ne wh j)) (m + 1) 4294967294) else none) else sdS e ne wh j m op
theorem sdS_s (e : Nat → Nat) (ne wh j m : Nat) (op : Nat → Nat) : sdS e ne wh (j + 1) m op = if ¬ sdP e ne wh j = 0 ∧ sdP e ne wh j &&& (2 ^ j - 1) = 0 then (if m + 1 < 64 then sdS e ne wh j (m + 2) (upN (upN op m (sdP e ne wh j)) (m + 1) 4294967294) else none) else sdS e ne wh j m op := rfl
set_option maxHeartbeats 1000000 in
theorem d_spread (hs : l.stackTraces = false) (A : mA) (P : mP) (T : mT) (F : mF) (G : mG) (S : mS) (sz : Nat) (wr op : Nat → Nat) (th wh n m' : Nat) (op' : Nat → Nat) (hn : S.1 ≤ 8) (he : ∀ i, i < S.1 → S.2.1 i < 256) (hw : wh < 256) (hn64 : n ≤ 64) (hm : 1 ≤ m') (hr : sdS S.2.1 S.1 wh 7 n op = some (m', op')) :
    pm_Met l mX6_spread 3 0 0 [.ref 0, .int (nI wh), .int (nI n)] (moW A P T F G S (sz, wr, nA op) th) (isI (nI (m' - 1)) (moW A P T F G S (sz, wr, nA op') th)) := by
  generalize hO : isI (nI (m' - 1)) (moW A P T F G S (sz, wr, nA op') th) = O
  refine pm_Met.mk kX6_spread hs (pm_J.run [6] 40 (fun K hK => hK _ ?_))
  have key : ∀ r, r ≤ 7 → ∀ m o x5, m ≤ 64 → sdS S.2.1 S.1 wh r m o = some (m', op') → pm_J l mX6_spread iX6_spread 3 0 0 15 O 0 0 (6, [some (.ref 0), some (.int (nI wh)), some (.int (nI n)), some (.int (nI m)), some (.int (nI r + pm_k (-1))), x5], [], moW A P T F G S (sz, wr, nA o) th) := by
    intro r
    induction r with
    | zero =>
      intro _ m o x5 hm64 hz
      rw [sdS] at hz
      cases hz
      refine pm_J.run [] 40 (fun K hK => br_t (show nI 0 + pm_k (-1) < 0 by decide) (hK _ ?_))
      refine pm_J.ri ?_
      rw [← hO, ← pk_sub hm]
      exact ⟨rfl, rfl⟩
    | succ j ih =>
      intro hj m o x5 hm64 hz
      rw [sdS_s] at hz
      rw [nI_dn]
      have hpl : sdP S.2.1 S.1 wh j < 256 := by
        unfold sdP
        split
        · exact paS_lt he (by omega) S.1 (Nat.le_refl _)
        · decide
      have h2j : 2 ^ j ≤ 2 ^ 7 := Nat.pow_le_pow_right (by decide) (by omega)
      have h2p : 1 ≤ 2 ^ j := Nat.one_le_two_pow
      have em : (nI 1 <<< (nI j &&& 31)) - nI 1 = nI (2 ^ j - 1) := by rw [nI_shl1 (by omega), pk_sub h2p]
      have em' : (pm_k 1 <<< (nI j &&& 31)) - pm_k 1 = nI (2 ^ j - 1) := em
      have mid : ∀ p, p = sdP S.2.1 S.1 wh j → pm_J l mX6_spread iX6_spread 3 0 0 15 O 0 0 (32, [some (.ref 0), some (.int (nI wh)), some (.int (nI n)), some (.int (nI m)), some (.int (nI j)), x5], [.int (nI p)], moW A P T F G S (sz, wr, nA o) th) := by
        intro p hp
        rw [← hp] at hz hpl
        have hand : p &&& (2 ^ j - 1) < 2 ^ 31 := Nat.lt_of_le_of_lt Nat.and_le_left (by omega)
        have skip : ¬ (¬ p = 0 ∧ p &&& (2 ^ j - 1) = 0) → pm_J l mX6_spread iX6_spread 3 0 0 15 O 0 0 (72, [some (.ref 0), some (.int (nI wh)), some (.int (nI n)), some (.int (nI m)), some (.int (nI j)), some (.int (nI p))], [], moW A P T F G S (sz, wr, nA o) th) := by
          intro hq
          rw [if_neg hq] at hz
          refine pm_J.run [6] 40 (fun K hK => hK _ ?_)
          exact ih (by omega) m o _ hm64 hz
        refine pm_J.run [72] 60 (fun K hK => And.intro (fun q => hK _ ?_) (fun q => And.intro (fun q2 => hK _ ?_) (fun q2 => ?_)))
        · have q' : nI p = 0 := q
          rw [nI_z (by omega)] at q'
          exact skip (fun z => z.1 q')
        · have q' : ¬ (nI p &&& ((pm_k 1 <<< (nI j &&& 31)) - pm_k 1)) = 0 := q2
          rw [em', nx_and, nI_z hand] at q'
          exact skip (fun z => q' z.2)
        · have q1' : ¬ nI p = 0 := q
          rw [nI_z (by omega)] at q1'
          have q2' : ¬ ¬ (nI p &&& ((pm_k 1 <<< (nI j &&& 31)) - pm_k 1)) = 0 := q2
          rw [em', nx_and, nI_z hand] at q2'
          rw [if_pos ⟨q1', Classical.not_not.mp q2'⟩] at hz
          by_cases hmm : m + 1 < 64
          · rw [if_pos hmm] at hz
            have e1 : nI m + pm_k 1 = nI (m + 1) := nI_add m 1
            have e2 : nI m + pm_k 2 = nI (m + 2) := nI_add m 2
            refine And.intro (vp_in_nI (by omega) (by decide)) (And.intro (by rw [e1]; exact vp_in_nI hmm (by decide)) (hK _ ?_))
            rw [e1, nI_clamp (by omega), nI_clamp (by omega)]
            have ih2 := ih (by omega) (m + 2) _ (some (.int (nI p))) (by omega) hz
            unfold moW at ih2
            dsimp only at ih2
            rw [← nA_upd, ← nA_upd, ← e2, show nI 4294967294 = pm_k (-2) by decide +kernel] at ih2
            refine pm_J.run [6] 60 (fun K hK => hK _ ?_)
            exact ih2
          · rw [if_neg hmm] at hz
            cases hz
      refine pm_J.run [32] 60 (fun K hK => br_f (nI_pos (by omega)) (And.intro (fun q => hK _ ?_) (fun q => hK _ ?_)))
      · have q' : ¬ ((nI wh >>> (nI j &&& 31)) &&& pm_k 1) = nI 1 := q
        rw [bit_gen (by omega) (by omega), nI_e128 (by omega) (by decide)] at q'
        exact mid 0 (by rw [sdP, if_neg q'])
      · have q' : ¬ ¬ ((nI wh >>> (nI j &&& 31)) &&& pm_k 1) = nI 1 := q
        rw [bit_gen (by omega) (by omega), nI_e128 (by omega) (by decide)] at q'
        refine pm_J.cI q15 (d_part hs A P T F G S (sz, wr, nA o) th wh j hn he hw (by omega)) gRX6_170 vX6_part ?_
        refine pm_J.run [32] 60 (fun K hK => hK _ ?_)
        exact mid _ (by rw [sdP, if_pos (Classical.not_not.mp q')])
  have := key 7 (by decide) n op none hn64 hr
  rw [nI_dn] at this
  exact this
end MDF
end
section
section MDG
variable {l : Launch}
def lbF (v : Nat) : Nat → Nat → Nat
  | 0, k => k
  | f + 1, k => if v / 2 ^ k % 2 = 1 then k else lbF v f (k + 1)
def wrS (e : Nat → Nat) (ne : Nat) : Nat → Nat → (Nat → Nat) → Nat → (Nat → Nat) → Option ((Nat → Nat) × Nat × (Nat → Nat))
  | 0, _, _, _, _ => none
  | f + 1, n, op, sz, wr => if n = 0 then some (op, sz, wr) else if ¬ sz < 64 then none else
    if op (n - 1) = 4294967295 then wrS e ne f (n - 1) op (sz + 1) (upN wr sz 41) else
    if op (n - 1) = 4294967294 then wrS e ne f (n - 1) op (sz + 1) (upN wr sz 44) else
    if ¬ op (n - 1) < 256 then none else
    if onS (op (n - 1)) 8 = 1 then wrS e ne f (n - 1) op (sz + 1) (upN wr sz (97 + lbF (op (n - 1)) 8 0)) else
    match sdS e ne (op (n - 1)) 7 n (upN op (n - 1) 4294967295) with
    | none => none
    | some z => if z.1 = 0 then none else wrS e ne f (z.1 - 1) z.2 (sz + 1) (upN wr sz 40)
theorem wrS_s (e : Nat → Nat) (ne f n : Nat) (op : Nat → Nat) (sz : Nat) (wr : Nat → Nat) : wrS e ne (f + 1) n op sz wr = if n = 0 then some (op, sz, wr) else if ¬ sz < 64 then none else
    if op (n - 1) = 4294967295 then wrS e ne f (n - 1) op (sz + 1) (upN wr sz 41) else
    if op (n - 1) = 4294967294 then wrS e ne f (n - 1) op (sz + 1) (upN wr sz 44) else
    if ¬ op (n - 1) < 256 then none else
    if onS (op (n - 1)) 8 = 1 then wrS e ne f (n - 1) op (sz + 1) (upN wr sz (97 + lbF (op (n - 1)) 8 0)) else
    match sdS e ne (op (n - 1)) 7 n (upN op (n - 1) 4294967295) with
    | none => none
    | some z => if z.1 = 0 then none else wrS e ne f (z.1 - 1) z.2 (sz + 1) (upN wr sz 40) := rfl
/-- writeSplits(): size, text, the row of what is open -/
def wrA (e : Nat → Nat) (ne kn f : Nat) (wr op : Nat → Nat) : Option (Nat × (Nat → Nat) × (Nat → Nat)) :=
  match sdS e ne (2 ^ kn - 2) 7 0 op with
  | none => none
  | some z => if z.1 = 0 then none else
    match wrS e ne f (z.1 - 1) z.2 3 (upN (upN (upN wr 0 40) 1 97) 2 44) with
    | none => none
    | some y => if y.2.1 + 1 < 64 then some (y.2.1 + 2, upN (upN y.2.2 y.2.1 41) (y.2.1 + 1) 59, y.1) else none
theorem sdS_le {e : Nat → Nat} {ne wh : Nat} : ∀ j m (op : Nat → Nat) z, m ≤ 64 → sdS e ne wh j m op = some z → z.1 ≤ 64
  | 0, m, op, z, hm, h => by rw [sdS] at h; cases h; exact hm
  | j + 1, m, op, z, hm, h => by
    rw [sdS_s] at h
    split at h
    · split at h
      · exact sdS_le j _ _ z (by omega) h
      · cases h
    · exact sdS_le j _ _ z hm h
theorem lb_ok : ∀ v, v < 256 → onS v 8 = 1 → lbF v 8 0 < 8 ∧ v / 2 ^ (lbF v 8 0) % 2 = 1 ∧ ∀ k, k < lbF v 8 0 → v / 2 ^ k % 2 = 0 := by decide +kernel
theorem nI_nn {x : Nat} (hx : x < 256) : ¬ nI x = pm_k (-1) ∧ ¬ nI x = pm_k (-2) := by
  have h0 : 0 ≤ nI x := Int32.not_lt.mp (nI_pos (by omega))
  refine ⟨fun z => ?_, fun z => ?_⟩
  · rw [z] at h0; exact absurd h0 (by decide)
  · rw [z] at h0; exact absurd h0 (by decide)
set_option maxHeartbeats 2000000 in
theorem d_writeSplits (hs : l.stackTraces = false) (A : mA) (P : mP) (T : mT) (F : mF) (G : mG) (S : mS) (sz : Nat) (wr op : Nat → Nat) (th f : Nat) (z : Nat × (Nat → Nat) × (Nat → Nat)) (hk3 : 3 ≤ T.1) (hk : T.1 ≤ 7) (hn : S.1 ≤ 8) (he : ∀ i, i < S.1 → S.2.1 i < 256) (hr : wrA S.2.1 S.1 T.1 f wr op = some z) :
    pm_Met l mX6_writeSplits 4 0 0 [.ref 0] (moW A P T F G S (sz, wr, nA op) th) (isI (nI z.1) (moW A P T F G S (z.1, z.2.1, nA z.2.2) th)) := by
  generalize hO : isI (nI z.1) (moW A P T F G S (z.1, z.2.1, nA z.2.2) th) = O
  have hp7 : 2 ^ T.1 ≤ 2 ^ 7 := Nat.pow_le_pow_right (by decide) hk
  have hp1 : 2 ^ 1 ≤ 2 ^ T.1 := Nat.pow_le_pow_right (by decide) (by omega)
  unfold wrA at hr
  generalize hsd : sdS S.2.1 S.1 (2 ^ T.1 - 2) 7 0 op = q1 at hr
  cases q1 with
  | none => cases hr
  | some y =>
  have hy64 := sdS_le 7 0 op y (by decide) hsd
  dsimp only at hr
  by_cases hy0 : y.1 = 0
  · rw [if_pos hy0] at hr; cases hr
  rw [if_neg hy0] at hr
  generalize hws : wrS S.2.1 S.1 f (y.1 - 1) y.2 3 (upN (upN (upN wr 0 40) 1 97) 2 44) = q2 at hr
  cases q2 with
  | none => cases hr
  | some u =>
  dsimp only at hr
  by_cases hu : u.2.1 + 1 < 64
  · rw [if_pos hu] at hr
    cases hr
    dsimp only at hO
    -- the end
    have fin : ∀ x1 x2 x3 : Option Value, pm_J l mX6_writeSplits iX6_writeSplits 4 0 0 15 O 0 0 (140, [some (.ref 0), x1, x2, x3], [], moW A P T F G S (u.2.1, u.2.2, nA u.1) th) := by
      intro x1 x2 x3
      refine pm_J.run [] 40 (fun K hK => hK _ ?_)
      refine pm_J.cv q15 (moW A P T F G S (u.2.1 + 1, upN u.2.2 u.2.1 41, nA u.1) th) (d_put hs A P T F G S u.2.1 u.2.2 (nA u.1) th 41 (by omega) (by decide)) gRX6_173 vX6_put ?_
      refine pm_J.run [] 40 (fun K hK => hK _ ?_)
      refine pm_J.cv q15 (moW A P T F G S (u.2.1 + 2, upN (upN u.2.2 u.2.1 41) (u.2.1 + 1) 59, nA u.1) th) (d_put hs A P T F G S (u.2.1 + 1) (upN u.2.2 u.2.1 41) (nA u.1) th 59 (by omega) (by decide)) gRX6_173 vX6_put ?_
      refine pm_J.run [] 40 (fun K hK => hK _ ?_)
      refine pm_J.ri ?_
      rw [← hO]
      exact ⟨rfl, rfl⟩
    have loop : ∀ f n o s w (x2 x3 : Option Value), n ≤ 64 → wrS S.2.1 S.1 f n o s w = some u → pm_J l mX6_writeSplits iX6_writeSplits 4 0 0 15 O 0 0 (37, [some (.ref 0), some (.int (nI n)), x2, x3], [], moW A P T F G S (s, w, nA o) th) := by
      intro f
      induction f with
      | zero => intro n o s w x2 x3 _ hz; rw [wrS] at hz; cases hz
      | succ f ih =>
        intro n o s w x2 x3 hn64 hz
        rw [wrS_s] at hz
        by_cases hn0 : n = 0
        · rw [if_pos hn0] at hz
          cases hz
          subst hn0
          refine pm_J.run [140] 40 (fun K hK => br_t (show nI 0 ≤ 0 by decide) (hK _ ?_))
          exact fin _ _ _
        · rw [if_neg hn0] at hz
          by_cases hs64 : s < 64
          · rw [if_neg (fun z => z hs64)] at hz
            obtain ⟨n', rfl⟩ : ∃ n', n = n' + 1 := ⟨n - 1, by omega⟩
            rw [Nat.add_sub_cancel] at hz
            refine pm_J.run [51] 40 (fun K hK => br_f (nI_nle (n := n' + 1) (by omega) (by omega)) (And.intro (by rw [nI_dn]; exact vp_in_nI (by omega) (by decide)) (hK _ ?_)))
            rw [nI_dn, nI_clamp (by omega)]
            show pm_J l mX6_writeSplits iX6_writeSplits 4 0 0 15 O 0 0 (51, [some (.ref 0), some (.int (nI n')), some (.int (nI (o n'))), x3], [], moW A P T F G S (s, w, nA o) th)
            by_cases h1 : o n' = 4294967295
            · rw [if_pos h1] at hz
              rw [h1]
              refine pm_J.run [] 40 (fun K hK => br_f (show ¬ ¬ nI 4294967295 = pm_k (-1) by decide +kernel) (hK _ ?_))
              refine pm_J.cv q15 (moW A P T F G S (s + 1, upN w s 41, nA o) th) (d_put hs A P T F G S s w (nA o) th 41 hs64 (by decide)) gRX6_173 vX6_put ?_
              refine pm_J.run [37] 40 (fun K hK => hK _ ?_)
              exact ih n' o (s + 1) (upN w s 41) _ _ (by omega) hz
            · rw [if_neg h1] at hz
              by_cases h2 : o n' = 4294967294
              · rw [if_pos h2] at hz
                rw [h2]
                refine pm_J.run [] 40 (fun K hK => br_t (show ¬ nI 4294967294 = pm_k (-1) by decide +kernel) (br_f (show ¬ ¬ nI 4294967294 = pm_k (-2) by decide +kernel) (hK _ ?_)))
                refine pm_J.cv q15 (moW A P T F G S (s + 1, upN w s 44, nA o) th) (d_put hs A P T F G S s w (nA o) th 44 hs64 (by decide)) gRX6_173 vX6_put ?_
                refine pm_J.run [37] 40 (fun K hK => hK _ ?_)
                exact ih n' o (s + 1) (upN w s 44) _ _ (by omega) hz
              · rw [if_neg h2] at hz
                by_cases h3 : o n' < 256
                · rw [if_neg (fun z => z h3)] at hz
                  obtain ⟨nn1, nn2⟩ := nI_nn h3
                  have ol := onS_le (o n') 8
                  refine pm_J.run [80] 40 (fun K hK => br_t nn1 (br_t nn2 (hK _ ?_)))
                  refine pm_J.run [] 40 (fun K hK => hK _ ?_)
                  refine pm_J.cis (d_ones hs (o n') (by omega)) gRX6_154 vX6_ones ?_
                  by_cases h4 : onS (o n') 8 = 1
                  · rw [if_pos h4] at hz
                    rw [h4]
                    obtain ⟨b1, b2, b3⟩ := lb_ok (o n') h3 h4
                    refine pm_J.run [90] 40 (fun K hK => br_f (fun z => z rfl) (hK _ ?_))
                    refine pm_up (b := lbF (o n') 8 0) (P := fun k => pm_J l mX6_writeSplits iX6_writeSplits 4 0 0 15 O 0 0 (90, [some (.ref 0), some (.int (nI n')), some (.int (nI (o n'))), some (.int (nI k))], [], moW A P T F G S (s, w, nA o) th)) 0 (Nat.zero_le _) ?_ (fun k g1 g2 ih2 => ?_)
                    · have hb := bit_gen (x := o n') (k := lbF (o n') 8 0) (by omega) (by omega)
                      refine pm_J.run [] 40 (fun K hK => br_t (by show ¬ (nI (o n') >>> (nI (lbF (o n') 8 0) &&& 31)) &&& pm_k 1 = 0; rw [hb, b2]; decide) (hK _ ?_))
                      rw [show pm_k 97 + nI (lbF (o n') 8 0) = nI (97 + lbF (o n') 8 0) from nI_add 97 _]
                      refine pm_J.cv q15 (moW A P T F G S (s + 1, upN w s (97 + lbF (o n') 8 0), nA o) th) (d_put hs A P T F G S s w (nA o) th (97 + lbF (o n') 8 0) hs64 (by omega)) gRX6_173 vX6_put ?_
                      refine pm_J.run [37] 40 (fun K hK => hK _ ?_)
                      exact ih n' o (s + 1) _ _ _ (by omega) hz
                    · have hb := bit_gen (x := o n') (k := k) (by omega) (by omega)
                      rw [← nI_add k 1] at ih2
                      refine pm_J.run [90] 40 (fun K hK => br_f (by show ¬ ¬ (nI (o n') >>> (nI k &&& 31)) &&& pm_k 1 = 0; rw [hb, b3 k g2]; decide) (hK _ ?_))
                      exact ih2
                  · rw [if_neg h4] at hz
                    generalize hsd2 : sdS S.2.1 S.1 (o n') 7 (n' + 1) (upN o n' 4294967295) = q3 at hz
                    cases q3 with
                    | none => cases hz
                    | some y2 =>
                      have hy2 := sdS_le 7 (n' + 1) _ y2 hn64 hsd2
                      dsimp only at hz
                      by_cases hy20 : y2.1 = 0
                      · rw [if_pos hy20] at hz; cases hz
                      · rw [if_neg hy20] at hz
                        have h4' : ¬ nI (onS (o n') 8) = nI 1 := fun z => h4 ((nI_e128 (by omega) (by decide)).mp z)
                        refine pm_J.run [] 40 (fun K hK => br_t h4' (hK _ ?_))
                        refine pm_J.cv q15 (moW A P T F G S (s + 1, upN w s 40, nA o) th) (d_put hs A P T F G S s w (nA o) th 40 hs64 (by decide)) gRX6_173 vX6_put ?_
                        refine pm_J.run [] 40 (fun K hK => And.intro (vp_in_nI (by omega) (by decide)) (hK _ ?_))
                        rw [nI_clamp (by omega)]
                        have hM := d_spread hs A P T F G S (s + 1) (upN w s 40) (upN o n' 4294967295) th (o n') (n' + 1) y2.1 y2.2 hn he h3 hn64 (by omega) hsd2
                        unfold moW at hM
                        dsimp only at hM
                        rw [← nA_upd o, ← nI_add n' 1, show nI 4294967295 = pm_k (-1) by decide +kernel] at hM
                        refine pm_J.ciw q15 (moW A P T F G S (s + 1, upN w s 40, nA y2.2) th) hM gRX6_176 vX6_spread ?_
                        refine pm_J.run [37] 40 (fun K hK => hK _ ?_)
                        exact ih (y2.1 - 1) y2.2 (s + 1) _ _ _ (by omega) hz
                · rw [if_pos h3] at hz; cases hz
          · rw [if_pos hs64] at hz; cases hz
    refine pm_Met.mk kX6_writeSplits hs (pm_J.run [] 40 (fun K hK => hK _ ?_))
    refine pm_J.cv q15 (moW A P T F G S (1, upN wr 0 40, nA op) th) (d_put hs A P T F G S 0 wr (nA op) th 40 (by decide) (by decide)) gRX6_173 vX6_put ?_
    refine pm_J.run [] 40 (fun K hK => hK _ ?_)
    refine pm_J.cv q15 (moW A P T F G S (2, upN (upN wr 0 40) 1 97, nA op) th) (d_put hs A P T F G S 1 (upN wr 0 40) (nA op) th 97 (by decide) (by decide)) gRX6_173 vX6_put ?_
    refine pm_J.run [] 40 (fun K hK => hK _ ?_)
    refine pm_J.cv q15 (moW A P T F G S (3, upN (upN (upN wr 0 40) 1 97) 2 44, nA op) th) (d_put hs A P T F G S 2 (upN (upN wr 0 40) 1 97) (nA op) th 44 (by decide) (by decide)) gRX6_173 vX6_put ?_
    refine pm_J.run [] 40 (fun K hK => hK _ ?_)
    have em : pm_k 1 <<< (nI T.1 &&& 31) - pm_k 2 = nI (2 ^ T.1 - 2) := by
      show nI 1 <<< (nI T.1 &&& 31) - nI 2 = _
      rw [nI_shl1 (by omega), pk_sub (by omega)]
    rw [em]
    refine pm_J.ciw q15 (moW A P T F G S (3, upN (upN (upN wr 0 40) 1 97) 2 44, nA y.2) th) (d_spread hs A P T F G S 3 (upN (upN (upN wr 0 40) 1 97) 2 44) op th (2 ^ T.1 - 2) 0 y.1 y.2 hn he (by omega) (by decide) (by omega) hsd) gRX6_176 vX6_spread ?_
    refine pm_J.run [37] 40 (fun K hK => hK _ ?_)
    exact loop f (y.1 - 1) y.2 3 _ none none (by omega) hws
  · rw [if_neg hu] at hr; cases hr
end MDG
end
section
section MDH
variable {l : Launch}
theorem paS_ag {e e' : Nat → Nat} {wh kd : Nat} : ∀ n, (∀ i, i < n → e i = e' i) → paS e wh kd n = paS e' wh kd n
  | 0, _ => rfl
  | n + 1, h => by
    unfold paS
    rw [paS_ag n (fun i hi => h i (by omega)), h n (by omega)]
theorem sdP_ag {e e' : Nat → Nat} {ne : Nat} (h : ∀ i, i < ne → e i = e' i) (wh kd : Nat) : sdP e ne wh kd = sdP e' ne wh kd := by
  unfold sdP
  rw [paS_ag ne h]
/-- the same up to m -/
def Ag (m : Nat) (f g : Nat → Nat) : Prop := ∀ j, j < m → f j = g j
theorem Ag.up {m : Nat} {f g : Nat → Nat} (h : Ag m f g) (v : Nat) : Ag (m + 1) (upN f m v) (upN g m v) := fun j hj => by
  unfold upN
  split
  · rfl
  · exact h j (by omega)
theorem Ag.up' {m k : Nat} {f g : Nat → Nat} (h : Ag m f g) (v : Nat) : Ag m (upN f k v) (upN g k v) := fun j hj => by
  unfold upN
  split
  · rfl
  · exact h j hj
theorem Ag.mono {m k : Nat} {f g : Nat → Nat} (h : Ag m f g) (hk : k ≤ m) : Ag k f g := fun j hj => h j (by omega)
theorem sdS_ag {e e' : Nat → Nat} {ne : Nat} (h : ∀ i, i < ne → e i = e' i) (wh : Nat) : ∀ j m (op op' : Nat → Nat) z', Ag m op op' → sdS e' ne wh j m op' = some z' → ∃ z, sdS e ne wh j m op = some z ∧ z.1 = z'.1 ∧ Ag z'.1 z.2 z'.2
  | 0, m, op, op', z', ha, hz => by
    rw [sdS] at hz
    cases hz
    exact ⟨(m, op), rfl, rfl, ha⟩
  | j + 1, m, op, op', z', ha, hz => by
    rw [sdS_s] at hz ⊢
    rw [sdP_ag h]
    split at hz
    · rename_i q
      rw [if_pos q]
      split at hz
      · rename_i q2
        rw [if_pos q2]
        exact sdS_ag h wh j (m + 2) _ _ z' ((ha.up _).up _) hz
      · cases hz
    · rename_i q
      rw [if_neg q]
      exact sdS_ag h wh j m op op' z' ha hz
theorem wrS_ag {e e' : Nat → Nat} {ne : Nat} (h : ∀ i, i < ne → e i = e' i) : ∀ f n (op op' : Nat → Nat) sz (wr wr' : Nat → Nat) z', Ag n op op' → Ag sz wr wr' → wrS e' ne f n op' sz wr' = some z' → ∃ z, wrS e ne f n op sz wr = some z ∧ z.2.1 = z'.2.1 ∧ Ag z'.2.1 z.2.2 z'.2.2
  | 0, n, op, op', sz, wr, wr', z', _, _, hz => by rw [wrS] at hz; cases hz
  | f + 1, n, op, op', sz, wr, wr', z', ha, hw, hz => by
    rw [wrS_s] at hz ⊢
    by_cases hn : n = 0
    · rw [if_pos hn] at hz ⊢
      cases hz
      exact ⟨_, rfl, rfl, hw⟩
    · rw [if_neg hn] at hz ⊢
      by_cases hs : ¬ sz < 64
      · rw [if_pos hs] at hz; cases hz
      · rw [if_neg hs] at hz ⊢
        have e1 := ha (n - 1) (by omega)
        rw [e1]
        by_cases h1 : op' (n - 1) = 4294967295
        · rw [if_pos h1] at hz ⊢
          exact wrS_ag h f (n - 1) op op' (sz + 1) _ _ z' (ha.mono (by omega)) (hw.up _) hz
        · rw [if_neg h1] at hz ⊢
          by_cases h2 : op' (n - 1) = 4294967294
          · rw [if_pos h2] at hz ⊢
            exact wrS_ag h f (n - 1) op op' (sz + 1) _ _ z' (ha.mono (by omega)) (hw.up _) hz
          · rw [if_neg h2] at hz ⊢
            by_cases h3 : ¬ op' (n - 1) < 256
            · rw [if_pos h3] at hz; cases hz
            · rw [if_neg h3] at hz ⊢
              by_cases h4 : onS (op' (n - 1)) 8 = 1
              · rw [if_pos h4] at hz ⊢
                exact wrS_ag h f (n - 1) op op' (sz + 1) _ _ z' (ha.mono (by omega)) (hw.up _) hz
              · rw [if_neg h4] at hz ⊢
                generalize hy' : sdS e' ne (op' (n - 1)) 7 n (upN op' (n - 1) 4294967295) = q at hz
                cases q with
                | none => cases hz
                | some y' =>
                  obtain ⟨y, g1, g2, g3⟩ := sdS_ag h (op' (n - 1)) 7 n (upN op (n - 1) 4294967295) _ y' (ha.up' _) hy'
                  rw [g1]
                  dsimp only at hz ⊢
                  rw [g2]
                  by_cases h5 : y'.1 = 0
                  · rw [if_pos h5] at hz; cases hz
                  · rw [if_neg h5] at hz ⊢
                    exact wrS_ag h f (y'.1 - 1) y.2 y'.2 (sz + 1) _ _ z' (g3.mono (by omega)) (hw.up _) hz
theorem wrA_ag {e e' : Nat → Nat} {ne : Nat} (h : ∀ i, i < ne → e i = e' i) (kn f : Nat) (wr wr' op op' : Nat → Nat) (z' : Nat × (Nat → Nat) × (Nat → Nat)) (hz : wrA e' ne kn f wr' op' = some z') : ∃ z, wrA e ne kn f wr op = some z ∧ z.1 = z'.1 ∧ Ag z'.1 z.2.1 z'.2.1 := by
  unfold wrA at hz ⊢
  generalize hy' : sdS e' ne (2 ^ kn - 2) 7 0 op' = q at hz
  cases q with
  | none => cases hz
  | some y' =>
    obtain ⟨y, g1, g2, g3⟩ := sdS_ag h (2 ^ kn - 2) 7 0 op op' y' (fun j hj => absurd hj (Nat.not_lt_zero j)) hy'
    rw [g1]
    dsimp only at hz ⊢
    rw [g2]
    by_cases h5 : y'.1 = 0
    · rw [if_pos h5] at hz; cases hz
    · rw [if_neg h5] at hz ⊢
      generalize hu' : wrS e' ne f (y'.1 - 1) y'.2 3 (upN (upN (upN wr' 0 40) 1 97) 2 44) = q2 at hz
      cases q2 with
      | none => cases hz
      | some u' =>
        have a3 : Ag 3 (upN (upN (upN wr 0 40) 1 97) 2 44) (upN (upN (upN wr' 0 40) 1 97) 2 44) := by
          have a0 : Ag 0 wr wr' := fun j hj => absurd hj (Nat.not_lt_zero j)
          exact ((a0.up 40).up 97).up 44
        obtain ⟨u, k1, k2, k3⟩ := wrS_ag h f (y'.1 - 1) y.2 y'.2 3 _ _ u' (g3.mono (by omega)) a3 hu'
        rw [k1]
        dsimp only at hz ⊢
        rw [k2]
        split at hz
        · rename_i q3
          rw [if_pos q3]
          cases hz
          exact ⟨_, rfl, rfl, (k3.up _).up _⟩
        · cases hz
abbrev zz : Nat → Nat := fun _ => 0
/-- what is written is z -/
def WrI (z : Nat × (Nat → Nat)) (W : mW) : Prop := W.1 = z.1 ∧ Ag z.1 W.2.1 z.2 ∧ ∃ op, W.2.2 = nA op
def moX (A : mA) (P : mP) (T : mT) (F : mF) (z : Nat × (Nat → Nat)) (th : Nat) (w : List pm_E) : Prop := ∃ G S W, GJ G ∧ WrI z W ∧ w = moW A P T F G S W th
theorem gwR_256 {k x : Nat} (hk : k ≤ 7) : B8 (gwR k x).2 := (gwT_GI (x := x) (fun _ => 0) hk).2.2.1.1
theorem spS_256 {st : Nat → Nat} (h : B8 st) (k : Nat) (s0 : Nat → Nat) : ∀ n i, i < (spS st k s0 n).1 → (spS st k s0 n).2 i < 256
  | 0, i, hi => absurd hi (Nat.not_lt_zero i)
  | n + 1, i, hi => by
    have ih := spS_256 h k s0 n
    unfold spS at hi ⊢
    split at hi
    · exact absurd hi (Nat.not_lt_zero i)
    · rename_i q
      rw [if_neg q]
      split at hi
      · rename_i q2
        rw [if_pos q2]
        exact ih i hi
      · rename_i q2
        rw [if_neg q2]
        dsimp only at hi ⊢
        unfold upN
        split
        · exact h n
        · exact ih i (by omega)
theorem d_write (hs : l.stackTraces = false) (A : mA) (P : mP) (T : mT) (F : mF) (G : mG) (S : mS) (W : mW) (th : Nat) (x : Int32) (hk : T.1 ≤ 7) (hG : GJ G) (hW : ∃ op, W.2.2 = nA op) (wz : Nat → Nat × (Nat → Nat) × (Nat → Nat)) (hr : ∀ a, a < tcount T.1 → wrA (spW T.1 a).2 (spW T.1 a).1 T.1 100 zz zz = some (wz a)) :
    pm_Met l mX6_write 5 0 0 [.ref 0, .int x] (moW A P T F G S W th) (fun o w' => (okC (tcount T.1) x ∧ o = .inl (some (.int (nI (wz x.toNatClampNeg).1))) ∧ moX A P T F ((wz x.toNatClampNeg).1, (wz x.toNatClampNeg).2.1) 0 w') ∨ (¬ okC (tcount T.1) x ∧ o = .inl (some (.int (nI 0))) ∧ w' = moW A P T F G S W 1)) := by
  generalize hO : (fun (o : pm_O) (w' : List pm_E) => (okC (tcount T.1) x ∧ o = .inl (some (.int (nI (wz x.toNatClampNeg).1))) ∧ moX A P T F ((wz x.toNatClampNeg).1, (wz x.toNatClampNeg).2.1) 0 w') ∨ (¬ okC (tcount T.1) x ∧ o = .inl (some (.int (nI 0))) ∧ w' = moW A P T F G S W 1)) = O
  have htc := tc_lt hk
  refine pm_Met.mk kX6_write hs (pm_J.run [] 40 (fun K hK => hK _ ?_))
  refine pm_J.cI q15 (d_isTree hs A P T F G S W th x hk) gRX6_132 vX6_isTree ?_
  by_cases h : 0 ≤ x ∧ x < nI (tcount T.1)
  · rw [if_pos h]
    obtain ⟨a, ha, rfl⟩ := ok_nat (by omega) h
    have ea : (nI a).toNatClampNeg = a := nI_clamp (by omega)
    rw [ea] at hO
    obtain ⟨sz, wr, op0⟩ := W
    obtain ⟨op, hop⟩ := hW
    dsimp only at hop
    subst hop
    refine pm_J.run [] 40 (fun K hK => br_f (by decide) (br_t (by decide) (hK _ ?_)))
    refine pm_J.cv q15 (moW A P T F (gwD T.1 a (gwR T.1 a).1 G.2.2.2.2.2) (gwP T.1 a S) (sz, wr, nA op) 0) (d_growD hs A P T F G S (sz, wr, nA op) 0 a hk ha hG) gRX6_135 vX6_grow ?_
    have hn := gwP_n T.1 a S
    obtain ⟨z, z1, z2, z3⟩ := wrA_ag (e := (gwP T.1 a S).2.1) (fun i hi => gwP_e S hi) T.1 100 wr zz op zz (wz a) (hr a ha)
    rw [← hn] at z1
    refine pm_J.run [] 40 (fun K hK => hK _ ?_)
    refine pm_J.ciw q15 (moW A P T F (gwD T.1 a (gwR T.1 a).1 G.2.2.2.2.2) (gwP T.1 a S) (z.1, z.2.1, nA z.2.2) 0) (d_writeSplits hs A P T F (gwD T.1 a (gwR T.1 a).1 G.2.2.2.2.2) (gwP T.1 a S) sz wr op 0 100 z (tc_3 ha) hk (by rw [hn]; exact spW_le hk) (spS_256 (gwR_256 hk) _ _ _) z1) gRX6_179 vX6_writeSplits ?_
    refine pm_J.ri ?_
    rw [← hO]
    refine Or.inl ⟨h, by rw [z2], _, _, _, gwD_GJ hk (gwR_Bz hk) hG.2, ⟨z2, z3, _, rfl⟩, rfl⟩
  · rw [if_neg h]
    refine pm_J.run [] 40 (fun K hK => br_t (by decide) (br_f (by decide) (hK _ ?_)))
    refine pm_J.ri ?_
    rw [← hO]
    exact Or.inr ⟨h, rfl, rfl⟩
def wtQ (W : mW) (x : Int32) : Nat := if 0 ≤ x ∧ x < nI W.1 then W.2.1 x.toNatClampNeg else 0
theorem d_written (hs : l.stackTraces = false) (A : mA) (P : mP) (T : mT) (F : mF) (G : mG) (S : mS) (W : mW) (th : Nat) (x : Int32) (h64 : W.1 ≤ 64) (hb : ∀ j, j < W.1 → W.2.1 j < 65536) :
    pm_Met l mX6_written 1 0 0 [.ref 0, .int x] (moW A P T F G S W th) (isI (nI (wtQ W x)) (moW A P T F G S W 0)) := by
  refine pm_Met.mk kX6_written hs (pm_J.run [] 40 (fun K hK => And.intro (fun q => hK _ ?_) (fun q => And.intro (fun q2 => ?_) (fun q2 => hK _ ?_))))
  · exact pm_J.ri ⟨by rw [wtQ, if_neg (fun z => absurd q (Int32.not_lt.mpr z.1))]; rfl, rfl⟩ (hn := rfl)
  · have hx : 0 ≤ x ∧ x < nI W.1 := ⟨Int32.not_lt.mp q, q2⟩
    obtain ⟨a, ha, rfl⟩ := ok_nat (by omega) hx
    refine And.intro (vp_in_nI (by omega) (by decide)) (hK _ ?_)
    rw [wtQ, if_pos hx, nI_clamp (by omega)]
    refine pm_J.ri ⟨rfl, rfl⟩ (hn := ?_)
    exact (pk_charN (hb a ha)).1
  · exact pm_J.ri ⟨by rw [wtQ, if_neg (fun z => q2 z.2)]; rfl, rfl⟩ (hn := rfl)
end MDH
end
section
/-! lanes -/
def nib (n j : Nat) : Nat := n / 16 ^ j % 16
theorem nib_bit (n j i : Nat) : (nib n j).testBit i = (decide (i < 4) && n.testBit (4 * j + i)) := by
  unfold nib
  rw [show (16 : Nat) ^ j = 2 ^ (4 * j) by rw [Nat.pow_mul]]
  rw [show (16 : Nat) = 2 ^ 4 from rfl, Nat.testBit_mod_two_pow, Nat.testBit_div_two_pow]
  rw [Nat.add_comm i (4 * j)]
theorem nib_lt (n j : Nat) : nib n j < 16 := Nat.mod_lt _ (by decide)
theorem nib_and (a b j : Nat) : nib (a &&& b) j = nib a j &&& nib b j := by
  apply Nat.eq_of_testBit_eq
  intro i
  rw [nib_bit, Nat.testBit_and, Nat.testBit_and, nib_bit, nib_bit]
  cases decide (i < 4) <;> simp
theorem nib_or (a b j : Nat) : nib (a ||| b) j = nib a j ||| nib b j := by
  apply Nat.eq_of_testBit_eq
  intro i
  rw [nib_bit, Nat.testBit_or, Nat.testBit_or, nib_bit, nib_bit]
  cases decide (i < 4) <;> simp
theorem nib_add : ∀ (j a b : Nat), (∀ i, i ≤ j → nib a i + nib b i < 16) → nib (a + b) j = nib a j + nib b j
  | 0, a, b, h => by
    have := h 0 (Nat.le_refl _)
    unfold nib at *
    simp only [Nat.pow_zero, Nat.div_one] at *
    omega
  | j + 1, a, b, h => by
    have e : ∀ n i, nib n (i + 1) = nib (n / 16) i := fun n i => by unfold nib; rw [Nat.pow_succ, Nat.mul_comm (16 ^ i) 16, Nat.div_div_eq_div_mul]
    have h0 := h 0 (Nat.zero_le _)
    have h0' : a % 16 + b % 16 < 16 := by unfold nib at h0; simpa using h0
    rw [e, e, e, show (a + b) / 16 = a / 16 + b / 16 by omega]
    exact nib_add j _ _ (fun i hi => by rw [← e, ← e]; exact h (i + 1) (by omega))
theorem nib_mul (m : Nat) : ∀ (j a : Nat), (∀ i, i ≤ j → m * nib a i < 16) → nib (m * a) j = m * nib a j
  | 0, a, h => by
    have := h 0 (Nat.le_refl _)
    unfold nib at *
    simp only [Nat.pow_zero, Nat.div_one] at *
    rw [← Nat.mul_mod_mod, Nat.mod_eq_of_lt this]
  | j + 1, a, h => by
    have e : ∀ n i, nib n (i + 1) = nib (n / 16) i := fun n i => by unfold nib; rw [Nat.pow_succ, Nat.mul_comm (16 ^ i) 16, Nat.div_div_eq_div_mul]
    have h0 := h 0 (Nat.zero_le _)
    have h0' : m * (a % 16) < 16 := by unfold nib at h0; simpa using h0
    have e2 : m * a / 16 = m * (a / 16) := by
      conv => lhs; rw [← Nat.div_add_mod a 16, Nat.mul_add, ← Nat.mul_assoc, Nat.mul_comm m 16, Nat.mul_assoc, Nat.mul_add_div (by decide)]
      rw [Nat.div_eq_of_lt h0', Nat.add_zero]
    rw [e, e, e2]
    exact nib_mul m j _ (fun i hi => by rw [← e]; exact h (i + 1) (by omega))
theorem lane_nib (x : Int64) (j : Nat) : lane x j = nib x.toBitVec.toNat j := rfl
theorem lane_and (a b : Int64) (j : Nat) : lane (a &&& b) j = lane a j &&& lane b j := by
  rw [lane_nib, Int64.toBitVec_and, BitVec.toNat_and, nib_and]; rfl
theorem lane_or (a b : Int64) (j : Nat) : lane (a ||| b) j = lane a j ||| lane b j := by
  rw [lane_nib, Int64.toBitVec_or, BitVec.toNat_or, nib_or]; rfl
theorem ushr_bit (x : Int64) (n : Nat) (hn : n < 4) (i : Nat) : (ushr x n).toBitVec.getLsbD i = x.toBitVec.getLsbD (n + i) := by
  unfold ushr
  show (x.toUInt64 >>> ((nI n).toInt64.toUInt64 &&& Int64.toUInt64 63)).toBitVec.getLsbD i = _
  rw [UInt64.toBitVec_shiftRight]
  show (x.toBitVec >>> (((nI n).toInt64.toUInt64 &&& Int64.toUInt64 63).toBitVec % 64).toNat).getLsbD i = _
  have : (((nI n).toInt64.toUInt64 &&& Int64.toUInt64 63).toBitVec % 64).toNat = n := by
    revert n; decide +kernel
  rw [this, BitVec.getLsbD_ushiftRight]
theorem mask_bit : ∀ i, i < 64 → (1229782938247303441 : Int64).toBitVec.getLsbD i = decide (i % 4 = 0) := by decide +kernel
theorem m1_bit : ∀ i, i < 64 → (-1 : Int64).toBitVec.getLsbD i = true := by decide +kernel
theorem torn_bit (a b : Int64) (i : Nat) (hi : i < 64) : (tornF a b).toBitVec.getLsbD i = (decide (i % 4 = 0) && !(((a &&& b).toBitVec.getLsbD i || (a &&& b).toBitVec.getLsbD (1 + i)) || (a &&& b).toBitVec.getLsbD (2 + i) || (a &&& b).toBitVec.getLsbD (3 + i))) := by
  unfold tornF
  rw [Int64.toBitVec_and, BitVec.getLsbD_and, mask_bit i hi, Int64.toBitVec_xor, BitVec.getLsbD_xor, m1_bit i hi, Int64.toBitVec_or, BitVec.getLsbD_or, Int64.toBitVec_or, BitVec.getLsbD_or, Int64.toBitVec_or, BitVec.getLsbD_or, ushr_bit _ 1 (by decide), ushr_bit _ 2 (by decide), ushr_bit _ 3 (by decide), Bool.xor_true, Bool.and_comm]
def tornN (a b : Nat) : Nat := if a &&& b = 0 then 1 else 0
def joinN (a b : Nat) : Nat := if a &&& b = 0 then a ||| b else a &&& b
theorem zero16 : ∀ y, y < 16 → ((y = 0) ↔ (y.testBit 0 || y.testBit 1 || y.testBit 2 || y.testBit 3) = false) := by decide +kernel
theorem of4 : ∀ y, y < 16 → (y.testBit 1 = false ∧ y.testBit 2 = false ∧ y.testBit 3 = false) → y = if y.testBit 0 then 1 else 0 := by decide +kernel
theorem lane_bit (x : Int64) (j i : Nat) (hi : i < 4) : (lane x j).testBit i = x.toBitVec.getLsbD (4 * j + i) := by
  rw [lane_nib, nib_bit, decide_eq_true hi, Bool.true_and]; rfl
theorem lane_torn (a b : Int64) (j : Nat) (hj : j < 16) : lane (tornF a b) j = tornN (lane a j) (lane b j) := by
  have h0 : (lane (tornF a b) j).testBit 0 = !((lane (a &&& b) j).testBit 0 || (lane (a &&& b) j).testBit 1 || (lane (a &&& b) j).testBit 2 || (lane (a &&& b) j).testBit 3) := by
    rw [lane_bit _ _ _ (by decide), lane_bit _ _ _ (by decide), lane_bit _ _ _ (by decide), lane_bit _ _ _ (by decide), lane_bit _ _ _ (by decide), torn_bit _ _ _ (by omega), decide_eq_true (by omega), Bool.true_and, Nat.add_comm 1, Nat.add_comm 2, Nat.add_comm 3]
  have hn : ∀ i, 0 < i → i < 4 → (lane (tornF a b) j).testBit i = false := by
    intro i h1 h2
    rw [lane_bit _ _ _ h2, torn_bit _ _ _ (by omega), decide_eq_false (by omega), Bool.false_and]
  rw [of4 (lane (tornF a b) j) (nib_lt _ _) ⟨hn 1 (by decide) (by decide), hn 2 (by decide) (by decide), hn 3 (by decide) (by decide)⟩, h0]
  unfold tornN
  rw [← lane_and]
  have := zero16 (lane (a &&& b) j) (nib_lt _ _)
  by_cases h : lane (a &&& b) j = 0
  · rw [this.mp h, if_pos h]; rfl
  · rw [if_neg h]
    cases hb : ((lane (a &&& b) j).testBit 0 || (lane (a &&& b) j).testBit 1 || (lane (a &&& b) j).testBit 2 || (lane (a &&& b) j).testBit 3)
    · exact absurd (this.mpr hb) h
    · rfl
theorem tornN_le (a b : Nat) : tornN a b ≤ 1 := by unfold tornN; split <;> omega
theorem nib_big (n : Nat) (h : n < 2 ^ 64) (j : Nat) (hj : 16 ≤ j) : nib n j = 0 := by
  unfold nib
  rw [Nat.div_eq_of_lt (Nat.lt_of_lt_of_le h (by rw [show (2:Nat)^64 = 16^16 from rfl]; exact Nat.pow_le_pow_right (by decide) hj))]
theorem nib_ext0 : ∀ (n a : Nat), a < 16 ^ n → (∀ j, j < n → nib a j ≤ 1) → 15 * a < 16 ^ n
  | 0, a, h, _ => by simp at h; subst h; decide
  | n + 1, a, h, hb => by
    have h0 := hb 0 (by omega)
    have := nib_ext0 n (a / 16) (by rw [Nat.pow_succ] at h; omega) (fun j hj => by
      have := hb (j + 1) (by omega)
      unfold nib at this ⊢
      rwa [Nat.pow_succ, Nat.mul_comm (16 ^ j) 16, ← Nat.div_div_eq_div_mul] at this)
    unfold nib at h0
    simp only [Nat.pow_zero, Nat.div_one] at h0
    rw [Nat.pow_succ]
    omega
theorem lane_15 (t : Int64) (h : ∀ j, lane t j ≤ 1) (j : Nat) : lane (t * 15) j = 15 * lane t j := by
  have hn : ∀ i, nib t.toBitVec.toNat i ≤ 1 := h
  have h15 : 15 * t.toBitVec.toNat < 2 ^ 64 := nib_ext0 16 _ t.toBitVec.isLt (fun j _ => hn j)
  rw [lane_nib, Int64.toBitVec_mul, BitVec.toNat_mul]
  show nib (t.toBitVec.toNat * 15 % 2 ^ 64) j = _
  rw [Nat.mul_comm, Nat.mod_eq_of_lt h15, nib_mul 15 j _ (fun i _ => by have := hn i; omega)]
  rfl
theorem torn_le (a b : Int64) (j : Nat) : lane (tornF a b) j ≤ 1 := by
  by_cases hj : j < 16
  · rw [lane_torn _ _ _ hj]; exact tornN_le _ _
  · rw [lane_nib, nib_big _ (BitVec.isLt _) j (by omega)]; omega
theorem and15 : ∀ y, y < 16 → y &&& 15 = y := by decide +kernel
theorem or_lt16 {a b : Nat} (ha : a < 16) (hb : b < 16) : a ||| b < 16 := Nat.or_lt_two_pow (n := 4) ha hb
theorem lane_join (a b : Int64) (j : Nat) (hj : j < 16) : lane (joinF a b (tornF a b)) j = joinN (lane a j) (lane b j) := by
  unfold joinF joinN
  rw [lane_or, lane_and, lane_and, lane_or, lane_15 _ (torn_le a b), lane_torn _ _ _ hj]
  unfold tornN
  split
  · rename_i h
    rw [h, Nat.zero_or, Nat.mul_one, and15 (lane a j ||| lane b j) (or_lt16 (nib_lt _ _) (nib_lt _ _))]
  · rw [Nat.mul_zero, Nat.and_zero, Nat.or_zero]
theorem lane_add (x y : Int64) (h : ∀ j, j < 16 → lane x j + lane y j < 16) (j : Nat) (hj : j < 16) : lane (x + y) j = lane x j + lane y j := by
  have hs : x.toBitVec.toNat + y.toBitVec.toNat < 2 ^ 64 := by
    have key : ∀ (n a b : Nat), a < 16 ^ n → b < 16 ^ n → (∀ j, j < n → nib a j + nib b j < 16) → a + b < 16 ^ n := by
      intro n
      induction n with
      | zero => intro a b h1 h2 _; simp at h1 h2 ⊢; omega
      | succ n ih =>
        intro a b h1 h2 h3
        have h0 := h3 0 (by omega)
        unfold nib at h0
        simp only [Nat.pow_zero, Nat.div_one] at h0
        have := ih (a / 16) (b / 16) (by rw [Nat.pow_succ] at h1; omega) (by rw [Nat.pow_succ] at h2; omega) (fun j hj => by
          have := h3 (j + 1) (by omega)
          unfold nib at this ⊢
          rwa [Nat.pow_succ, Nat.mul_comm (16 ^ j) 16, ← Nat.div_div_eq_div_mul, ← Nat.div_div_eq_div_mul] at this)
        rw [Nat.pow_succ]
        omega
    exact key 16 _ _ x.toBitVec.isLt y.toBitVec.isLt h
  rw [lane_nib, Int64.toBitVec_add, BitVec.toNat_add, Nat.mod_eq_of_lt hs, nib_add j _ _ (fun i hi => h i (by omega))]
  rfl
section FIT
def fX (on ot od s0 : Nat → Nat) : Nat → (Nat → Nat × Nat)
  | 0 => fun v => (s0 v, 0)
  | i + 1 => fun v => if v = od i then (joinN (fX on ot od s0 i (on (od i))).1 (fX on ot od s0 i (ot (od i))).1, (fX on ot od s0 i (on (od i))).2 + (fX on ot od s0 i (ot (od i))).2 + tornN (fX on ot od s0 i (on (od i))).1 (fX on ot od s0 i (ot (od i))).1) else fX on ot od s0 i v
def fT (on ot od s0 : Nat → Nat) (i : Nat) : Nat := tornN (fX on ot od s0 i (on (od i))).1 (fX on ot od s0 i (ot (od i))).1
def suN (f : Nat → Nat) : Nat → Nat
  | 0 => 0
  | i + 1 => suN f i + f i
theorem suN_le {f : Nat → Nat} (h : ∀ i, f i ≤ 1) : ∀ n, suN f n ≤ n
  | 0 => Nat.le_refl _
  | n + 1 => by have := suN_le h n; have := h n; rw [suN]; omega
theorem fT_le (on ot od s0 : Nat → Nat) (i : Nat) : fT on ot od s0 i ≤ 1 := tornN_le _ _
theorem lane_pk (on ot od : Nat → Nat) (se : Nat → Int64) : ∀ i, i ≤ 7 → (∀ c, c < 16 → lane (pkS on ot od se i).1 c = suN (fT on ot od (fun v => lane (se v) c)) i) ∧ (∀ c, c < 16 → ∀ v, lane ((pkS on ot od se i).2.2 v) c = (fX on ot od (fun v => lane (se v) c) i v).1)
  | 0, _ => ⟨fun c _ => by show lane 0 c = 0; rw [lane_nib]; show nib 0 c = 0; unfold nib; simp, fun c _ v => rfl⟩
  | i + 1, hi => by
    obtain ⟨h1, h2⟩ := lane_pk on ot od se i (by omega)
    have et : ∀ c, c < 16 → lane (tornF ((pkS on ot od se i).2.2 (on (od i))) ((pkS on ot od se i).2.2 (ot (od i)))) c = fT on ot od (fun v => lane (se v) c) i := by
      intro c hc
      rw [lane_torn _ _ _ hc, h2 c hc, h2 c hc]
      rfl
    refine ⟨fun c hc => ?_, fun c hc v => ?_⟩
    · rw [pkS]
      dsimp only
      rw [lane_add _ _ (fun j hj => ?_) c hc, et c hc, h1 c hc, suN]
      rw [et j hj, h1 j hj]
      have := suN_le (fT_le on ot od (fun v => lane (se v) j)) i
      have := fT_le on ot od (fun v => lane (se v) j) i
      omega
    · rw [pkS, fX]
      dsimp only
      by_cases hv : v = od i
      · subst hv
        rw [pk_uLs, if_pos rfl, lane_join _ _ _ hc, h2 c hc, h2 c hc]
      · rw [pk_uLn hv, if_neg hv, h2 c hc]
theorem lane_pkR (on ot od : Nat → Nat) (se : Nat → Int64) (n c : Nat) (hn : n < 7) (hc : c < 16) (h1 : 1 ≤ n) : lane (pkR on ot od se n) c = suN (fT on ot od (fun v => lane (se v) c)) n + tornN (fX on ot od (fun v => lane (se v) c) n 0).1 (fX on ot od (fun v => lane (se v) c) n (od (n - 1))).1 := by
  obtain ⟨g1, g2⟩ := lane_pk on ot od se n (by omega)
  have ht : (pkS on ot od se n).2.1 = od (n - 1) := by
    obtain ⟨m, rfl⟩ : ∃ m, n = m + 1 := ⟨n - 1, by omega⟩
    rfl
  unfold pkR
  rw [ht, lane_add _ _ (fun j hj => ?_) c hc, lane_torn _ _ _ hc, g1 c hc, g2 c hc, g2 c hc]
  rw [g1 j hj]
  have := suN_le (fT_le on ot od (fun v => lane (se v) j)) n
  have := torn_le ((pkS on ot od se n).2.2 0) ((pkS on ot od se n).2.2 (od (n - 1))) j
  omega
theorem joinN_ok {a b : Nat} (ha : a ≠ 0 ∧ a < 16) (hb : b ≠ 0 ∧ b < 16) : joinN a b ≠ 0 ∧ joinN a b < 16 := by
  unfold joinN
  split
  · refine ⟨fun h => ha.1 ?_, or_lt16 ha.2 hb.2⟩
    have := Nat.left_le_or (n := a) (m := b)
    omega
  · rename_i h
    exact ⟨h, Nat.lt_of_le_of_lt Nat.and_le_left ha.2⟩
theorem fX_ok {on ot od s0 : Nat → Nat} (h : ∀ v, s0 v ≠ 0 ∧ s0 v < 16) : ∀ i v, ((fX on ot od s0 i v).1 ≠ 0 ∧ (fX on ot od s0 i v).1 < 16) ∧ (fX on ot od s0 i v).2 < 2 ^ i
  | 0, v => ⟨h v, by show 0 < 2 ^ 0; decide⟩
  | i + 1, v => by
    rw [fX]
    dsimp only
    split
    · have a := fX_ok (on := on) (ot := ot) (od := od) h i (on (od i))
      have b := fX_ok (on := on) (ot := ot) (od := od) h i (ot (od i))
      refine ⟨joinN_ok a.1 b.1, ?_⟩
      have := tornN_le (fX on ot od s0 i (on (od i))).1 (fX on ot od s0 i (ot (od i))).1
      dsimp only
      rw [Nat.pow_succ]
      omega
    · have a := fX_ok (on := on) (ot := ot) (od := od) h i v
      refine ⟨a.1, ?_⟩
      rw [Nat.pow_succ]
      omega
/-- subtree sums by coefficients -/
def cfS (on ot od : Nat → Nat) : Nat → (Nat → Nat → Nat)
  | 0 => fun _ _ => 0
  | i + 1 => fun v j => if v = od i then cfS on ot od i (on (od i)) j + cfS on ot od i (ot (od i)) j + (if j = i then 1 else 0) else cfS on ot od i v j
theorem suN_add (f g : Nat → Nat) : ∀ n, suN (fun i => f i + g i) n = suN f n + suN g n
  | 0 => rfl
  | n + 1 => by rw [suN, suN, suN, suN_add f g n]; omega
theorem suN_ext {f g : Nat → Nat} : ∀ n, (∀ i, i < n → f i = g i) → suN f n = suN g n
  | 0, _ => rfl
  | n + 1, h => by rw [suN, suN, suN_ext n (fun i hi => h i (by omega)), h n (by omega)]
theorem suN_0 : ∀ n, suN (fun _ => 0) n = 0
  | 0 => rfl
  | n + 1 => by rw [suN, suN_0 n]
theorem suN_one (t : Nat → Nat) (i : Nat) : ∀ n, suN (fun j => (if j = i then 1 else 0) * t j) n = if i < n then t i else 0
  | 0 => by simp [suN]
  | n + 1 => by
    rw [suN, suN_one t i n]
    by_cases h : i < n
    · rw [if_pos h, if_neg (show ¬ n = i by omega), if_pos (show i < n + 1 by omega)]; omega
    · rw [if_neg h]
      by_cases h2 : n = i
      · subst h2; rw [if_pos rfl, if_pos (show n < n + 1 by omega)]; omega
      · rw [if_neg h2, if_neg (show ¬ i < n + 1 by omega)]; omega
theorem fX_cf (on ot od s0 : Nat → Nat) (n : Nat) : ∀ i, i ≤ n → ∀ v, (fX on ot od s0 i v).2 = suN (fun j => cfS on ot od i v j * fT on ot od s0 j) n
  | 0, _, v => by
    show 0 = suN (fun j => 0 * _) n
    rw [suN_ext n (g := fun _ => 0) (fun i _ => Nat.zero_mul _), suN_0]
  | i + 1, hi, v => by
    rw [fX]
    dsimp only
    by_cases hv : v = od i
    · rw [if_pos hv]
      dsimp only
      rw [fX_cf on ot od s0 n i (by omega), fX_cf on ot od s0 n i (by omega)]
      have e : suN (fun j => cfS on ot od (i + 1) v j * fT on ot od s0 j) n = suN (fun j => cfS on ot od i (on (od i)) j * fT on ot od s0 j + cfS on ot od i (ot (od i)) j * fT on ot od s0 j + (if j = i then 1 else 0) * fT on ot od s0 j) n := by
        apply suN_ext
        intro j _
        rw [cfS]
        dsimp only
        rw [if_pos hv, Nat.add_mul, Nat.add_mul]
      rw [e, suN_add, suN_add, suN_one, if_pos (by omega)]
      rfl
    · rw [if_neg hv, fX_cf on ot od s0 n i (by omega)]
      apply suN_ext
      intro j _
      rw [cfS]
      dsimp only
      rw [if_neg hv]
/-- once written, a node stays -/
def dist (od : Nat → Nat) (n : Nat) : Bool := (List.range n).all (fun i => (List.range i).all (fun j => !(Nat.beq (od i) (od j))))
theorem dist_use {od : Nat → Nat} {n : Nat} (h : dist od n = true) {i j : Nat} (hi : i < n) (hj : j < i) : od i ≠ od j := by
  have := List.all_eq_true.mp (List.all_eq_true.mp h i (List.mem_range.mpr hi)) j (List.mem_range.mpr hj)
  intro e
  rw [e] at this
  simp at this
theorem fX_stay (on ot od s0 : Nat → Nat) (v i : Nat) : ∀ d, (∀ j, i ≤ j → j < i + d → od j ≠ v) → fX on ot od s0 (i + d) v = fX on ot od s0 i v
  | 0, _ => rfl
  | d + 1, h => by
    rw [show i + (d + 1) = (i + d) + 1 by omega, fX]
    dsimp only
    rw [if_neg (fun e => h (i + d) (by omega) (by omega) e.symm)]
    exact fX_stay on ot od s0 v i d (fun j h1 h2 => h j h1 (by omega))
end FIT
section SAN
def Rel (co : Nat → Nat) (v X M : Nat) : Prop := ∀ s, s < 4 → if X.testBit s then co (4 * v + s) = M else M + 1 ≤ co (4 * v + s)
theorem bits4 {X : Nat} (h0 : X ≠ 0) (h : X < 16) : (X.testBit 0 || X.testBit 1 || X.testBit 2 || X.testBit 3) = true := by
  have := zero16 X h
  cases hb : (X.testBit 0 || X.testBit 1 || X.testBit 2 || X.testBit 3)
  · exact absurd (this.mpr hb) h0
  · rfl
theorem fr_aux {b0 b1 b2 b3 : Bool} {c0 c1 c2 c3 M : Nat} (hM : M ≤ 90) (b : (b0 || b1 || b2 || b3) = true) (a0 : if b0 then c0 = M else M + 1 ≤ c0) (a1 : if b1 then c1 = M else M + 1 ≤ c1) (a2 : if b2 then c2 = M else M + 1 ≤ c2) (a3 : if b3 then c3 = M else M + 1 ≤ c3) :
    (min (min (min (min 99 (c0 + 0)) (c1 + 1)) (c2 + 1)) (c3 + 1) = M + if b0 then 0 else 1) ∧ (min (min (min (min 99 (c0 + 1)) (c1 + 0)) (c2 + 1)) (c3 + 1) = M + if b1 then 0 else 1) ∧ (min (min (min (min 99 (c0 + 1)) (c1 + 1)) (c2 + 0)) (c3 + 1) = M + if b2 then 0 else 1) ∧ (min (min (min (min 99 (c0 + 1)) (c1 + 1)) (c2 + 1)) (c3 + 0) = M + if b3 then 0 else 1) := by
  cases b0 <;> cases b1 <;> cases b2 <;> cases b3 <;> simp only [if_true, if_false, Bool.false_eq_true, Bool.or_false, Bool.or_true, Bool.false_or] at a0 a1 a2 a3 b ⊢ <;> omega
theorem fr_rel {co : Nat → Nat} {v X M : Nat} (h : Rel co v X M) (h0 : X ≠ 0) (h16 : X < 16) (hM : M ≤ 90) {s : Nat} (hs : s < 4) : frF co v s = M + if X.testBit s then 0 else 1 := by
  have z := fr_aux hM (bits4 h0 h16) (h 0 (by decide)) (h 1 (by decide)) (h 2 (by decide)) (h 3 (by decide))
  have hs' : s = 0 ∨ s = 1 ∨ s = 2 ∨ s = 3 := by omega
  rcases hs' with rfl | rfl | rfl | rfl
  · exact z.1
  · exact z.2.1
  · exact z.2.2.1
  · exact z.2.2.2
theorem fr_congr {co co' : Nat → Nat} {v : Nat} (h : ∀ s, s < 4 → co (4 * v + s) = co' (4 * v + s)) (x : Nat) : frF co v x = frF co' v x := by
  have : ∀ s, s ≤ 4 → fmS co v x s = fmS co' v x s := by
    intro s
    induction s with
    | zero => intro _; rfl
    | succ s ih => intro hs; rw [fmS, fmS, ih (by omega), h s (by omega)]
  exact this 4 (Nat.le_refl _)
theorem nc_out (L R : Nat → Nat) (k : Nat) (co : Nat → Nat) (j : Nat) : ∀ s, (∀ t, t < s → j ≠ 4 * k + t) → ncS L R k co s j = co j
  | 0, _ => rfl
  | s + 1, h => by
    rw [ncS, upN_n (h s (by omega))]
    exact nc_out L R k co j s (fun t ht => h t (by omega))
theorem nc_other {L R : Nat → Nat} {k : Nat} {co : Nat → Nat} {v : Nat} (hv : v ≠ k) (n : Nat) (hn : n ≤ 4) : ∀ s, s < 4 → ncS L R k co n (4 * v + s) = co (4 * v + s) := fun s hs => nc_out L R k co _ n (fun t ht => by omega)
theorem nc_in {L R : Nat → Nat} {k : Nat} {co : Nat → Nat} (hL : L k ≠ k) (hR : R k ≠ k) : ∀ n, n ≤ 4 → ∀ s, s < n → ncS L R k co n (4 * k + s) = frF co (L k) s + frF co (R k) s
  | 0, _, s, h => by omega
  | n + 1, hn, s, h => by
    rw [ncS]
    by_cases e : s = n
    · subst e
      rw [upN_s, fr_congr (nc_other hL s (by omega)), fr_congr (nc_other hR s (by omega))]
    · rw [upN_n (by omega)]
      exact nc_in hL hR n (by omega) s (by omega)
theorem rel_step {co : Nat → Nat} {v x y k XL ML XR MR : Nat} (hv : v = k) {co' : Nat → Nat} (hl : Rel co x XL ML) (hr : Rel co y XR MR) (l0 : XL ≠ 0 ∧ XL < 16) (r0 : XR ≠ 0 ∧ XR < 16) (lM : ML ≤ 90) (rM : MR ≤ 90) (h : ∀ s, s < 4 → co' (4 * v + s) = frF co x s + frF co y s) : Rel co' v (joinN XL XR) (ML + MR + tornN XL XR) := by
  intro s hs
  rw [h s hs, fr_rel hl l0.1 l0.2 lM hs, fr_rel hr r0.1 r0.2 rM hs]
  unfold joinN tornN
  by_cases hz : XL &&& XR = 0
  · rw [if_pos hz, if_pos hz, Nat.testBit_or]
    have : (XL.testBit s && XR.testBit s) = false := by rw [← Nat.testBit_and, hz, Nat.zero_testBit]
    cases hb : XL.testBit s <;> cases hb2 : XR.testBit s <;> simp [hb, hb2] at this ⊢ <;> omega
  · rw [if_neg hz, if_neg hz, Nat.testBit_and]
    cases hb : XL.testBit s <;> cases hb2 : XR.testBit s <;> simp <;> omega
/-- which nodes are reckoned, the last first -/
def rqT (L R : Nat → Nat) (z : (Nat → Nat) × List Nat) (k : Nat) : (Nat → Nat) × List Nat := if z.1 k = 0 ∧ ¬ z.1 (L k) = 0 ∧ ¬ z.1 (R k) = 0 then (upN z.1 k 1, k :: z.2) else z
def rqI (L R : Nat → Nat) (s : (Nat → Nat) × List Nat) : Nat → (Nat → Nat) × List Nat
  | 0 => s
  | k + 1 => if k < 10 then s else rqT L R (rqI L R s k) k
def rqO (L R : Nat → Nat) (kn : Nat) (s : (Nat → Nat) × List Nat) : Nat → (Nat → Nat) × List Nat
  | 0 => s
  | r + 1 => rqI L R (rqO L R kn s r) (8 + kn)
def rqC (L R : Nat → Nat) (co : Nat → Nat) : List Nat → (Nat → Nat)
  | [] => co
  | k :: l => ncS L R k (rqC L R co l) 4
def rqP (L R : Nat → Nat) (co : Nat → Nat) (z : (Nat → Nat) × List Nat) : rdsT := (z.1, rqC L R co z.2)
theorem rq_T (L R : Nat → Nat) (co : Nat → Nat) (z : (Nat → Nat) × List Nat) (k : Nat) : nsT L R (rqP L R co z) k = rqP L R co (rqT L R z k) := by
  unfold nsT rqT
  by_cases h : z.1 k = 0 ∧ ¬ z.1 (L k) = 0 ∧ ¬ z.1 (R k) = 0
  · rw [if_pos h, if_pos (show (rqP L R co z).1 k = 0 ∧ ¬ (rqP L R co z).1 (L k) = 0 ∧ ¬ (rqP L R co z).1 (R k) = 0 from h)]; rfl
  · rw [if_neg h, if_neg (show ¬ ((rqP L R co z).1 k = 0 ∧ ¬ (rqP L R co z).1 (L k) = 0 ∧ ¬ (rqP L R co z).1 (R k) = 0) from h)]
theorem rq_I (L R : Nat → Nat) (co : Nat → Nat) (z : (Nat → Nat) × List Nat) : ∀ k, nsI L R (rqP L R co z) k = rqP L R co (rqI L R z k)
  | 0 => rfl
  | k + 1 => by
    rw [nsI, rqI]
    split
    · rfl
    · rw [rq_I L R co z k, rq_T]
theorem rq_O (L R : Nat → Nat) (co : Nat → Nat) (kn : Nat) (z : (Nat → Nat) × List Nat) : ∀ r, nsO L R kn (rqP L R co z) r = rqP L R co (rqO L R kn z r)
  | 0 => rfl
  | r + 1 => by rw [nsO, rqO, rq_O L R co kn z r, rq_I]
def sq (k x : Nat) : List Nat := (rqO (gwS k x k).2.1 (gwS k x k).2.2 k (rdK k, []) 6).2
def mp (c : Nat) : Nat := if c < 7 then c else c + 1
def mi (v : Nat) : Nat := if v < 8 then v else v - 1
theorem mi_mp (c : Nat) : mi (mp c) = c := by unfold mi mp; split <;> split <;> omega
def kidq (kn : Nat) (l : List Nat) (c : Nat) : Bool := Nat.blt c kn || l.any (Nat.beq c)
def okq (kn : Nat) (on ot od L R : Nat → Nat) : List Nat → Bool
  | [] => true
  | k :: l => okq kn on ot od L R l && (Nat.ble 10 k && (!(l.any (Nat.beq k)) && (kidq kn l (L k) && (kidq kn l (R k) && (Nat.beq (L k) (mp (on (k - 1))) && (Nat.beq (R k) (mp (ot (k - 1))) && (List.range (kn - 2)).any (fun i => Nat.beq (od i) (k - 1))))))))
theorem any_beq {l : List Nat} {c : Nat} : l.any (Nat.beq c) = true ↔ c ∈ l := by
  rw [List.any_eq_true]
  constructor
  · rintro ⟨x, hx, h⟩; rw [Nat.eq_of_beq_eq_true h]; exact hx
  · intro h; exact ⟨c, h, Nat.beq_refl c⟩
theorem kidq_use {kn : Nat} {l : List Nat} {c : Nat} (h : kidq kn l c = true) : c < kn ∨ c ∈ l := by
  unfold kidq at h
  rcases Bool.or_eq_true_iff.mp h with h | h
  · exact Or.inl (Nat.blt_eq.mp h)
  · exact Or.inr (any_beq.mp h)
theorem rel_run {kn : Nat} {on ot od L R : Nat → Nat} {X : Nat → Nat × Nat} {co : Nat → Nat} (hk : kn ≤ 7) (hX : ∀ v, ((X v).1 ≠ 0 ∧ (X v).1 < 16) ∧ (X v).2 ≤ 90)
    (hE : ∀ i, i < kn - 2 → X (od i) = (joinN (X (on (od i))).1 (X (ot (od i))).1, (X (on (od i))).2 + (X (ot (od i))).2 + tornN (X (on (od i))).1 (X (ot (od i))).1))
    (h0 : ∀ v, v < kn → Rel co v (X v).1 (X v).2) : ∀ l, okq kn on ot od L R l = true → ∀ v, v < kn ∨ v ∈ l → Rel (rqC L R co l) v (X (mi v)).1 (X (mi v)).2
  | [], _, v, hv => by
    rcases hv with hv | hv
    · have : mi v = v := if_pos (by omega)
      rw [this]
      exact h0 v hv
    · cases hv
  | k :: l, h, v, hv => by
    rw [okq] at h
    simp only [Bool.and_eq_true] at h
    obtain ⟨h1, h2, h3, h4, h5, h6, h7, h8⟩ := h
    have ih := rel_run hk hX hE h0 l h1
    have k10 := Nat.le_of_ble_eq_true h2
    have nk : k ∉ l := fun z => by rw [any_beq.mpr z] at h3; cases h3
    have e6 := Nat.eq_of_beq_eq_true h6
    have e7 := Nat.eq_of_beq_eq_true h7
    obtain ⟨i, hi, e8⟩ := List.any_eq_true.mp h8
    have hi := List.mem_range.mp hi
    have e8 := Nat.eq_of_beq_eq_true e8
    have c4 := kidq_use h4
    have c5 := kidq_use h5
    have nL : L k ≠ k := by
      intro e
      rw [e] at c4
      rcases c4 with c | c
      · omega
      · exact nk c
    have nR : R k ≠ k := by
      intro e
      rw [e] at c5
      rcases c5 with c | c
      · omega
      · exact nk c
    rw [rqC]
    by_cases e : v = k
    · subst e
      have hm : mi v = v - 1 := if_neg (by omega)
      have hE := hE i hi
      rw [e8] at hE
      rw [hm, hE]
      have rl := ih (L v) c4
      have rr := ih (R v) c5
      rw [e6, mi_mp] at rl
      rw [e7, mi_mp] at rr
      refine rel_step rfl rl rr (hX _).1 (hX _).1 (hX _).2 (hX _).2 (fun s hs => ?_)
      rw [nc_in nL nR 4 (Nat.le_refl _) s hs, e6, e7]
    · have hv' : v < kn ∨ v ∈ l := by
        rcases hv with hv | hv
        · exact Or.inl hv
        · rcases List.mem_cons.mp hv with h | h
          · exact absurd h e
          · exact Or.inr h
      intro s hs
      rw [nc_other e 4 (Nat.le_refl _) s hs]
      exact ih v hv' s hs
theorem al_aux {a0 a1 a2 a3 b0 b1 b2 b3 : Bool} {c0 c1 c2 c3 M : Nat} (hM : M ≤ 90) (ha : (a0 || a1 || a2 || a3) = true) (hb : (b0 || b1 || b2 || b3) = true) (h0 : if a0 then c0 = 0 else 0 + 1 ≤ c0) (h1 : if a1 then c1 = 0 else 0 + 1 ≤ c1) (h2 : if a2 then c2 = 0 else 0 + 1 ≤ c2) (h3 : if a3 then c3 = 0 else 0 + 1 ≤ c3) :
    min (min (min (min 99 (c0 + (M + if b0 then 0 else 1))) (c1 + (M + if b1 then 0 else 1))) (c2 + (M + if b2 then 0 else 1))) (c3 + (M + if b3 then 0 else 1)) = M + if ((a0 && b0) || (a1 && b1) || (a2 && b2) || (a3 && b3)) then 0 else 1 := by
  cases a0 <;> cases a1 <;> cases a2 <;> cases a3 <;> simp only [if_true, if_false, Bool.false_eq_true, Bool.or_false, Bool.or_true, Bool.false_or, Bool.true_or] at h0 h1 h2 h3 ha <;> cases b0 <;> cases b1 <;> cases b2 <;> cases b3 <;> simp only [if_true, if_false, Bool.false_eq_true, Bool.or_false, Bool.or_true, Bool.false_or, Bool.true_or, Bool.and_true, Bool.true_and, Bool.and_false, Bool.false_and] at hb ⊢ <;> omega
theorem al_rel {co : Nat → Nat} {tp X0 Xt M : Nat} (h : Rel co 0 X0 0) (ht : Rel co tp Xt M) (z0 : X0 ≠ 0 ∧ X0 < 16) (zt : Xt ≠ 0 ∧ Xt < 16) (hM : M ≤ 90) : alS co tp 4 = M + tornN X0 Xt := by
  have e : alS co tp 4 = min (min (min (min 99 (co 0 + frF co tp 0)) (co 1 + frF co tp 1)) (co 2 + frF co tp 2)) (co 3 + frF co tp 3) := rfl
  rw [e, fr_rel ht zt.1 zt.2 hM (by decide), fr_rel ht zt.1 zt.2 hM (by decide), fr_rel ht zt.1 zt.2 hM (by decide), fr_rel ht zt.1 zt.2 hM (by decide)]
  rw [al_aux hM (bits4 z0.1 z0.2) (bits4 zt.1 zt.2) (h 0 (by decide)) (h 1 (by decide)) (h 2 (by decide)) (h 3 (by decide))]
  unfold tornN
  have := zero16 (X0 &&& Xt) (Nat.lt_of_le_of_lt Nat.and_le_left z0.2)
  rw [Nat.testBit_and, Nat.testBit_and, Nat.testBit_and, Nat.testBit_and] at this
  cases hb : ((X0.testBit 0 && Xt.testBit 0) || (X0.testBit 1 && Xt.testBit 1) || (X0.testBit 2 && Xt.testBit 2) || (X0.testBit 3 && Xt.testBit 3))
  · rw [if_pos (this.mpr hb)]; rfl
  · rw [if_neg (show ¬ (X0 &&& Xt = 0) from fun z => by rw [this.mp z] at hb; cases hb)]; rfl
end SAN
end
section
section FSN
def ones1 (on ot od : Nat → Nat) (n : Nat) : Bool := (List.range n).all (fun j => Nat.beq (cfS on ot od n (od (n - 1)) j) 1)
def fsC (k x : Nat) : Bool := okq k (gz k x).1.1 (gz k x).1.2.1 (gz k x).2 (gwS k x k).2.1 (gwS k x k).2.2 (sq k x) && (kidq 0 (sq k x) (gwS k x k).1 && (Nat.beq (gwS k x k).1 ((gz k x).2 (k - 3) + 1) && (dist (gz k x).2 (k - 2) && ones1 (gz k x).1.1 (gz k x).1.2.1 (gz k x).2 (k - 2))))
theorem fs_3 : (List.range 1).all (fsC 3) = true := by decide +kernel
theorem fs_4 : (List.range 3).all (fsC 4) = true := by decide +kernel
theorem fs_5 : (List.range 15).all (fsC 5) = true := by decide +kernel
theorem fs_6 : (List.range 105).all (fsC 6) = true := by decide +kernel
theorem fs_7 : (List.range 945).all (fsC 7) = true := by decide +kernel
theorem fs_ok {k x : Nat} (hk3 : 3 ≤ k) (hk : k ≤ 7) (hx : x < tcount k) : fsC k x = true := all_trees fs_3 fs_4 fs_5 fs_6 fs_7 hk3 hk hx
/-- the two tables alike -/
def TbR (t : tbP) (T : mT) : Prop := T.1 = t.2.2.1 ∧ T.2.1 = t.2.2.2 ∧ T.1 ≤ 7 ∧ T.2.1 ≤ 16 ∧ (∀ a c, a < T.1 → c < T.2.1 → T.2.2.1 (16 * a + c) = lane (t.1 a) c ∧ ¬ lane (t.1 a) c = 0) ∧ ∀ c, c < T.2.1 → T.2.2.2 c = t.2.1 c
theorem nd_all {t : tbP} {T : mT} (h : TbR t T) (hk3 : 3 ≤ T.1) {x c : Nat} (hx : x < tcount T.1) (hc : c < T.2.1) (co : Nat → Nat) : ndF T (gwS T.1 x T.1).1 (gwS T.1 x T.1).2.1 (gwS T.1 x T.1).2.2 co c = lane (lenP t.1 T.1 x) c := by
  obtain ⟨-, -, hk, h16, hst, -⟩ := h
  obtain ⟨k, cn, stt, wt⟩ := T
  dsimp only at *
  have hc16 : c < 16 := by omega
  rw [← pk_canon (ch := cz) (s0 := tz) (od := cz) t.1 (fun _ => -1) rfl hk3 hk hx]
  have F := fs_ok hk3 hk hx
  unfold fsC at F
  simp only [Bool.and_eq_true] at F
  obtain ⟨f1, f2, f3, f4, f5⟩ := F
  have W := wfz_ok hk3 hk hx
  have O := (grR_gz (k := k) (x := x) (ch := cz) (s0 := tz) (od := cz) rfl hk).2
  have kids := fun i hi => wfz_kids (k := k) (x := x) W (i := i) hi
  have e3 := Nat.eq_of_beq_eq_true f3
  rw [lane_pkR _ _ _ _ (k - 2) c (by omega) hc16 (by omega)]
  show ndF (k, cn, stt, wt) _ _ _ co c = suN (fT (gz k x).1.1 (gz k x).1.2.1 (gz k x).2 _) (k - 2) + tornN (fX (gz k x).1.1 (gz k x).1.2.1 (gz k x).2 _ (k - 2) 0).1 (fX (gz k x).1.1 (gz k x).1.2.1 (gz k x).2 _ (k - 2) ((gz k x).2 (k - 2 - 1))).1
  unfold ndF ndR
  have e0 : nsO (gwS k x k).2.1 (gwS k x k).2.2 k (rdK k, cpF (ciV stt c) co 64 (4 * k)) 6 = rqP (gwS k x k).2.1 (gwS k x k).2.2 (cpF (ciV stt c) co 64 (4 * k)) (rqO (gwS k x k).2.1 (gwS k x k).2.2 k (rdK k, []) 6) := rq_O _ _ (cpF (ciV stt c) co 64 (4 * k)) k (rdK k, []) 6
  show alS (nsO (gwS k x k).2.1 (gwS k x k).2.2 k (rdK k, cpF (ciV stt c) co 64 (4 * k)) 6).2 (gwS k x k).1 4 = _
  rw [e0]
  show alS (rqC (gwS k x k).2.1 (gwS k x k).2.2 (cpF (ciV stt c) co 64 (4 * k)) (sq k x)) (gwS k x k).1 4 = _
  rw [e3] at f2 ⊢
  rw [show k - 2 - 1 = k - 3 by omega]
  clear e0 e3 f3 W
  have O9 : ∀ i, i < k - 2 → 9 ≤ (gz k x).2 i := fun i hi => (O i hi).2.1
  clear O
  generalize (gwS k x k).2.1 = L at *
  generalize (gwS k x k).2.2 = R at *
  generalize sq k x = l at *
  generalize (gz k x).1.1 = on at *
  generalize (gz k x).1.2.1 = ot at *
  generalize (gz k x).2 = od at *
  have hs0 : ∀ v, lane (seF t.1 (fun _ => -1) k v) c ≠ 0 ∧ lane (seF t.1 (fun _ => -1) k v) c < 16 := by
    intro v
    refine ⟨?_, nib_lt _ _⟩
    unfold seF
    split
    · rename_i hv; exact (hst v c hv hc).2
    · exact (by decide +kernel : ∀ c, c < 16 → lane (-1) c ≠ 0) c hc16
  generalize hs : (fun v => lane (seF t.1 (fun _ => -1) k v) c) = s0
  have hs0' : ∀ v, s0 v ≠ 0 ∧ s0 v < 16 := by rw [← hs]; exact hs0
  have hX : ∀ v, ((fX on ot od s0 (k - 2) v).1 ≠ 0 ∧ (fX on ot od s0 (k - 2) v).1 < 16) ∧ (fX on ot od s0 (k - 2) v).2 ≤ 90 := by
    intro v
    have a := fX_ok (on := on) (ot := ot) (od := od) hs0' (k - 2) v
    refine ⟨a.1, ?_⟩
    have : 2 ^ (k - 2) ≤ 2 ^ 5 := Nat.pow_le_pow_right (by decide) (by omega)
    omega
  have leaf : ∀ v, v < k → ∀ i, i ≤ k - 2 → fX on ot od s0 i v = (s0 v, 0) := by
    intro v hv i hi
    have := fX_stay on ot od s0 v 0 i (fun j _ h2 => by have := O9 j (by omega); omega)
    rw [Nat.zero_add] at this
    rw [this]
    rfl
  have stay : ∀ i, i < k - 2 → ∀ n, i < n → n ≤ k - 2 → fX on ot od s0 n (od i) = fX on ot od s0 (i + 1) (od i) := by
    intro i hi n h1 h2
    have := fX_stay on ot od s0 (od i) (i + 1) (n - (i + 1)) (fun j h3 h4 => dist_use f4 (by omega) (by omega))
    rwa [show i + 1 + (n - (i + 1)) = n by omega] at this
  have kid : ∀ i, i < k - 2 → ∀ v, (v < k ∨ ∃ j, j < i ∧ od j = v) → fX on ot od s0 i v = fX on ot od s0 (k - 2) v := by
    intro i hi v hv
    rcases hv with hv | ⟨j, hj, rfl⟩
    · rw [leaf v hv i (by omega), leaf v hv (k - 2) (Nat.le_refl _)]
    · rw [stay j (by omega) i hj (by omega), stay j (by omega) (k - 2) (by omega) (Nat.le_refl _)]
  have hE : ∀ i, i < k - 2 → fX on ot od s0 (k - 2) (od i) = (joinN (fX on ot od s0 (k - 2) (on (od i))).1 (fX on ot od s0 (k - 2) (ot (od i))).1, (fX on ot od s0 (k - 2) (on (od i))).2 + (fX on ot od s0 (k - 2) (ot (od i))).2 + tornN (fX on ot od s0 (k - 2) (on (od i))).1 (fX on ot od s0 (k - 2) (ot (od i))).1) := by
    intro i hi
    rw [stay i hi (k - 2) hi (Nat.le_refl _), ← kid i hi _ (kids i hi).1, ← kid i hi _ (kids i hi).2, fX]
    dsimp only
    rw [if_pos rfl]
  have h0 : ∀ v, v < k → Rel (cpF (ciV stt c) co 64 (4 * k)) v (fX on ot od s0 (k - 2) v).1 (fX on ot od s0 (k - 2) v).2 := by
    intro v hv s hsl
    rw [leaf v hv (k - 2) (Nat.le_refl _)]
    have es : s0 v = stt (16 * v + c) := by
      rw [← hs]
      show lane (seF t.1 (fun _ => -1) k v) c = _
      rw [(hst v c hv hc).1]
      unfold seF
      rw [if_pos hv]
    dsimp only
    unfold cpF
    rw [if_pos (show 4 * v + s < 4 * k by omega), es]
    unfold ciV
    rw [show (4 * v + s) / 4 = v by omega, show (4 * v + s) % 4 = s by omega, Nat.testBit_eq_decide_div_mod_eq]
    by_cases hb : stt (16 * v + c) / 2 ^ s % 2 = 1
    · rw [if_pos hb, if_pos (by simp [hb])]
    · rw [if_neg hb, if_neg (by simp [hb])]
      decide
  have RR := rel_run hk hX hE h0 l f1
  have htop : od (k - 3) + 1 ∈ l := by
    rcases kidq_use f2 with h | h
    · omega
    · exact h
  have r0 := RR 0 (Or.inl (by omega))
  have rt := RR _ (Or.inr htop)
  have m0 : mi 0 = 0 := rfl
  have mt : mi (od (k - 3) + 1) = od (k - 3) := by
    have := O9 (k - 3) (by omega)
    unfold mi
    rw [if_neg (by omega)]
    omega
  rw [m0, leaf 0 (by omega) (k - 2) (Nat.le_refl _)] at r0
  rw [mt] at rt
  rw [al_rel r0 rt (hs0' 0) (hX _).1 (hX _).2, leaf 0 (by omega) (k - 2) (Nat.le_refl _)]
  congr 1
  rw [fX_cf on ot od s0 (k - 2) (k - 2) (Nat.le_refl _)]
  apply suN_ext
  intro j hj
  have := List.all_eq_true.mp f5 j (List.mem_range.mpr hj)
  rw [show k - 2 - 1 = k - 3 by omega] at this
  rw [Nat.eq_of_beq_eq_true this, Nat.one_mul]
theorem nd_ok {t : tbP} {T : mT} (h : TbR t T) (hk3 : 3 ≤ T.1) : NdOk T := fun x hx co _ c hc => by
  unfold ndV
  rw [nd_all h hk3 hx hc, nd_all h hk3 hx hc]
theorem nd_eq {t : tbP} {T : mT} (h : TbR t T) (hk3 : 3 ≤ T.1) {x c : Nat} (hx : x < tcount T.1) (hc : c < T.2.1) : ndV T x c = lane (lenP t.1 T.1 x) c := nd_all h hk3 hx hc _
theorem ln_eq {t : tbP} {T : mT} (h : TbR t T) (hk3 : 3 ≤ T.1) {x : Nat} (hx : x < tcount T.1) : lnV T x = lenT t.1 t.2.1 t.2.2.1 t.2.2.2 x := by
  unfold lenT
  show lnS T x T.2.1 = _
  rw [← h.1, ← h.2.1]
  have : ∀ n, n ≤ T.2.1 → lnS T x n = wsum (lenP t.1 T.1 x) t.2.1 n := by
    intro n
    induction n with
    | zero => intro _; rfl
    | succ n ih => intro hn; rw [lnS, wsum, ih (by omega), nd_eq h hk3 hx (by omega), h.2.2.2.2.2 n (by omega), Nat.mul_comm]
  exact this _ (Nat.le_refl _)
end FSN
end
section
section SPL
def spl (f : Nat → Nat) (n : Nat) : List Nat := (List.range n).map f
def okSp (k s : Nat) : Bool := Nat.blt s 128 && (Nat.blt 1 (onS s 8) && (Nat.beq (s &&& ((2 ^ k - 2) ^^^ 4294967295)) 0 && !(Nat.beq s (2 ^ k - 2))))
def cpt (s t : Nat) : Bool := Nat.beq (s &&& t) 0 || (Nat.beq (s &&& t) s || Nat.beq (s &&& t) t)
def spC (k x : Nat) : Bool := Nat.beq (spW k x).1 (k - 3) && ((spl (spz k x) (k - 3)).isPerm (spl (spW k x).2 (k - 3)) && (dist (spz k x) (k - 3) && ((spl (spz k x) (k - 3)).all (okSp k) && (spl (spz k x) (k - 3)).all (fun s => (spl (spz k x) (k - 3)).all (cpt s)))))
theorem sp_3 : (List.range 1).all (spC 3) = true := by decide +kernel
theorem sp_4 : (List.range 3).all (spC 4) = true := by decide +kernel
theorem sp_5 : (List.range 15).all (spC 5) = true := by decide +kernel
theorem sp_6 : (List.range 105).all (spC 6) = true := by decide +kernel
theorem sp_7 : (List.range 945).all (spC 7) = true := by decide +kernel
theorem sp_ok {k x : Nat} (hk3 : 3 ≤ k) (hk : k ≤ 7) (hx : x < tcount k) : spC k x = true := all_trees sp_3 sp_4 sp_5 sp_6 sp_7 hk3 hk hx
theorem spl_mem {f : Nat → Nat} {n s : Nat} : s ∈ spl f n ↔ ∃ i, i < n ∧ f i = s := by
  unfold spl
  rw [List.mem_map]
  constructor
  · rintro ⟨i, hi, e⟩; exact ⟨i, List.mem_range.mp hi, e⟩
  · rintro ⟨i, hi, e⟩; exact ⟨i, List.mem_range.mpr hi, e⟩
/-- what is checked of a tree's splits -/
theorem spf {k x : Nat} (hk3 : 3 ≤ k) (hk : k ≤ 7) (hx : x < tcount k) : (spW k x).1 = k - 3 ∧ List.Perm (spl (spz k x) (k - 3)) (spl (spW k x).2 (k - 3)) ∧ (∀ i j, i < k - 3 → j < i → spz k x i ≠ spz k x j) ∧ (∀ i, i < k - 3 → okSp k (spz k x i) = true) ∧ (∀ i j, i < k - 3 → j < k - 3 → cpt (spz k x i) (spz k x j) = true) := by
  have h := sp_ok hk3 hk hx
  unfold spC at h
  simp only [Bool.and_eq_true] at h
  obtain ⟨h1, h2, h3, h4, h5⟩ := h
  refine ⟨Nat.eq_of_beq_eq_true h1, List.isPerm_iff.mp h2, fun i j hi hj => dist_use h3 hi hj, fun i hi => List.all_eq_true.mp h4 _ (spl_mem.mpr ⟨i, hi, rfl⟩), fun i j hi hj => List.all_eq_true.mp (List.all_eq_true.mp h5 _ (spl_mem.mpr ⟨i, hi, rfl⟩)) _ (spl_mem.mpr ⟨j, hj, rfl⟩)⟩
theorem okSp_lt {k s : Nat} (h : okSp k s = true) : s < 128 := by
  unfold okSp at h
  simp only [Bool.and_eq_true] at h
  exact Nat.blt_eq.mp h.1
theorem hasS_iff (be od : Nat → Nat) (x : Int32) : ∀ n, hasS be od x n = true ↔ ∃ i, i < n ∧ nI (be (od i)) = x
  | 0 => by
    constructor
    · intro h; cases h
    · rintro ⟨i, hi, _⟩; omega
  | n + 1 => by
    rw [hasS, Bool.or_eq_true_iff, hasS_iff be od x n, decide_eq_true_eq]
    constructor
    · rintro (⟨i, hi, e⟩ | e)
      · exact ⟨i, by omega, e⟩
      · exact ⟨n, by omega, e⟩
    · rintro ⟨i, hi, e⟩
      by_cases h : i = n
      · subst h; exact Or.inr e
      · exact Or.inl ⟨i, by omega, e⟩
theorem hasQ_iff (ss : Nat → Nat) (x : Int32) : ∀ n, hasQ ss x n = true ↔ ∃ i, i < n ∧ nI (ss i) = x
  | 0 => by
    constructor
    · intro h; cases h
    · rintro ⟨i, hi, _⟩; omega
  | n + 1 => by
    rw [hasQ, Bool.or_eq_true_iff, hasQ_iff ss x n, decide_eq_true_eq]
    constructor
    · rintro (⟨i, hi, e⟩ | e)
      · exact ⟨i, by omega, e⟩
      · exact ⟨n, by omega, e⟩
    · rintro ⟨i, hi, e⟩
      by_cases h : i = n
      · subst h; exact Or.inr e
      · exact Or.inl ⟨i, by omega, e⟩
theorem has_eq {k x : Nat} (hk3 : 3 ≤ k) (hk : k ≤ 7) (hx : x < tcount k) (y : Int32) : hasS (spz k x) id y (k - 3) = hasT k x y := by
  obtain ⟨f1, f2, -⟩ := spf hk3 hk hx
  rw [Bool.eq_iff_iff]
  unfold hasT
  rw [f1, hasS_iff, hasQ_iff]
  constructor
  · rintro ⟨i, hi, e⟩
    have := f2.mem_iff.mp (spl_mem.mpr ⟨i, hi, rfl⟩)
    obtain ⟨j, hj, e2⟩ := spl_mem.mp this
    exact ⟨j, hj, by rw [e2]; exact e⟩
  · rintro ⟨i, hi, e⟩
    have := f2.mem_iff.mpr (spl_mem.mpr ⟨i, hi, rfl⟩)
    obtain ⟨j, hj, e2⟩ := spl_mem.mp this
    exact ⟨j, hj, by show nI (spz k x j) = y; rw [e2]; exact e⟩
theorem suN_swap (f : Nat → Nat → Nat) (n : Nat) : ∀ m, suN (fun i => suN (f i) n) m = suN (fun j => suN (fun i => f i j) m) n
  | 0 => (suN_0 n).symm
  | m + 1 => by
    rw [suN, suN_swap f n m]
    rw [← suN_add]
    rfl
theorem suN_dist {f : Nat → Nat} (v : Nat) : ∀ n, (∀ i j, i < n → j < i → f i ≠ f j) → suN (fun j => if f j = v then 1 else 0) n = if (∃ i, i < n ∧ f i = v) then 1 else 0
  | 0, _ => by rw [if_neg (by rintro ⟨i, hi, _⟩; omega)]; rfl
  | n + 1, h => by
    rw [suN, suN_dist v n (fun i j hi hj => h i j (by omega) hj)]
    by_cases e : f n = v
    · have hno : ¬ ∃ i, i < n ∧ f i = v := by
        rintro ⟨i, hi, e2⟩
        exact h n i (by omega) hi (by rw [e, e2])
      rw [if_pos e, if_neg hno, if_pos (show ∃ i, i < n + 1 ∧ f i = v from ⟨n, by omega, e⟩)]
    · rw [if_neg e]
      by_cases e2 : ∃ i, i < n ∧ f i = v
      · rw [if_pos e2, if_pos (by obtain ⟨i, hi, e3⟩ := e2; exact ⟨i, by omega, e3⟩)]
      · rw [if_neg e2, if_neg]
        rintro ⟨i, hi, e3⟩
        by_cases hin : i = n
        · subst hin; exact e e3
        · exact e2 ⟨i, by omega, e3⟩
/-- which of a's splits are in b: the same count both ways -/
def inN (f g : Nat → Nat) (n : Nat) : Nat := suN (fun i => suN (fun j => if g j = f i then 1 else 0) n) n
theorem inN_comm (f g : Nat → Nat) (n : Nat) : inN f g n = inN g f n := by
  unfold inN
  rw [suN_swap]
  apply suN_ext
  intro i _
  apply suN_ext
  intro j _
  by_cases h : g i = f j
  · rw [if_pos h, if_pos h.symm]
  · rw [if_neg h, if_neg (fun z => h z.symm)]
theorem inN_le {f g : Nat → Nat} {n : Nat} (hg : ∀ i j, i < n → j < i → g i ≠ g j) : inN f g n ≤ n := by
  have : ∀ m, suN (fun i => suN (fun j => if g j = f i then 1 else 0) n) m ≤ m := by
    intro m
    apply suN_le
    intro i
    rw [suN_dist (f i) n hg]
    split <;> omega
  exact this n
theorem notIn_eq {f g : Nat → Nat} {n : Nat} (hf : ∀ i, i < n → f i < 128) (hg : ∀ i, i < n → g i < 128) (hd : ∀ i j, i < n → j < i → g i ≠ g j) : notIn f id g id n n + inN f g n = n := by
  have : ∀ m, m ≤ n → notIn f id g id n m + suN (fun i => suN (fun j => if g j = f i then 1 else 0) n) m = m := by
    intro m
    induction m with
    | zero => intro _; rfl
    | succ m ih =>
      intro hm
      have ih := ih (by omega)
      rw [notIn, suN, suN_dist (f m) n hd]
      by_cases h : ∃ i, i < n ∧ g i = f m
      · rw [if_pos h, if_pos]
        · omega
        · rw [hasS_iff]
          obtain ⟨i, hi, e⟩ := h
          exact ⟨i, hi, by show nI (g i) = nI (f m); rw [e]⟩
      · rw [if_neg h, if_neg]
        · omega
        · intro z
          rw [hasS_iff] at z
          obtain ⟨i, hi, e⟩ := z
          have e : nI (g i) = nI (f m) := e
          rw [nI_eq (by have := hg i hi; omega) (by have := hf m (by omega); omega)] at e
          exact h ⟨i, hi, e⟩
  exact this n (Nat.le_refl _)
theorem suN_len (p : Nat → Bool) (f : Nat → Nat) : ∀ n, suN (fun i => b2n (p (f i))) n = (spl f n).countP p
  | 0 => rfl
  | n + 1 => by
    rw [suN, suN_len p f n]
    unfold spl
    rw [List.range_succ, List.map_append, List.countP_append]
    congr 1
    show b2n (p (f n)) = List.countP p [f n]
    rw [List.countP_cons, List.countP_nil]
    unfold b2n
    omega
theorem boQ_su (k a : Nat) (e : Nat → Nat) : ∀ n, boQ k a e n = suN (fun i => b2n (hasT k a (nI (e i)))) n
  | 0 => rfl
  | n + 1 => by rw [boQ, suN, boQ_su k a e n]
theorem ds_eq {k a b : Nat} (hk3 : 3 ≤ k) (hk : k ≤ 7) (ha : a < tcount k) (hb : b < tcount k) : dsI k a b = nI (notIn (spz k a) id (spz k b) id (k - 3) (k - 3) + notIn (spz k b) id (spz k a) id (k - 3) (k - 3)) := by
  obtain ⟨a1, a2, a3, a4, -⟩ := spf hk3 hk ha
  obtain ⟨b1, b2, b3, b4, -⟩ := spf hk3 hk hb
  have la := fun i hi => okSp_lt (a4 i hi)
  have lb := fun i hi => okSp_lt (b4 i hi)
  have n1 := notIn_eq la lb b3
  have n2 := notIn_eq lb la a3
  rw [inN_comm] at n2
  have hbo : boQ k a (spW k b).2 (k - 3) = inN (spz k a) (spz k b) (k - 3) := by
    rw [boQ_su, suN_len (fun s => hasT k a (nI s)), ← b2.countP_eq, ← suN_len (fun s => hasT k a (nI s)), inN_comm]
    unfold inN
    apply suN_ext
    intro i hi
    rw [suN_dist (spz k b i) (k - 3) a3, ← has_eq hk3 hk ha]
    unfold b2n
    by_cases h : ∃ j, j < k - 3 ∧ spz k a j = spz k b i
    · rw [if_pos h, if_pos]
      rw [hasS_iff]
      obtain ⟨j, hj, e⟩ := h
      exact ⟨j, hj, by show nI (spz k a j) = _; rw [e]⟩
    · rw [if_neg h, if_neg]
      intro z
      rw [hasS_iff] at z
      obtain ⟨j, hj, e⟩ := z
      have e : nI (spz k a j) = nI (spz k b i) := e
      rw [nI_eq (by have := la j hj; omega) (by have := lb i hi; omega)] at e
      exact h ⟨j, hj, e⟩
  unfold dsI
  rw [a1, b1, hbo]
  have := inN_le (f := spz k a) b3
  generalize inN (spz k a) (spz k b) (k - 3) = q at *
  have e1 : notIn (spz k a) id (spz k b) id (k - 3) (k - 3) = (k - 3) - q := by omega
  have e2 : notIn (spz k b) id (spz k a) id (k - 3) (k - 3) = (k - 3) - q := by omega
  rw [e1, e2]
  have h4 : k - 3 ≤ 4 := by omega
  generalize k - 3 = m at *
  clear e1 e2 n1 n2 hbo la lb a1 a2 a3 a4 b1 b2 b3 b4
  have : ∀ m, m ≤ 4 → ∀ q, q ≤ m → nI m + nI m - nI 2 * nI q = nI (m - q + (m - q)) := by decide +kernel
  exact this m h4 q (by omega)
/-- the tally -/
theorem taI_su (sp t : Nat → Nat) (v : Nat) : ∀ n, taI sp t n v = t v + suN (fun j => if sp j = v then 1 else 0) n
  | 0 => rfl
  | n + 1 => by
    rw [taI, suN]
    by_cases h : v = sp n
    · rw [← h, upN_s, taI_su sp t v n, if_pos rfl]; omega
    · rw [upN_n h, taI_su sp t v n, if_neg (fun z => h z.symm)]; omega
theorem ta_sh {k : Nat} {nu t : Nat → Nat} (hk3 : 3 ≤ k) (hk : k ≤ 7) {v : Nat} (hv : v < 128) : ∀ n, (∀ i, i < n → nu i < tcount k) → taS k nu t n v = t v + shQ k nu (nI v) n
  | 0, _ => rfl
  | n + 1, h => by
    obtain ⟨f1, f2, f3, f4, -⟩ := spf hk3 hk (h n (by omega))
    rw [taS, shQ, taI_su, ta_sh hk3 hk hv n (fun i hi => h i (by omega)), suN_dist v (k - 3) f3, ← has_eq hk3 hk (h n (by omega))]
    rw [Nat.add_assoc]
    congr 2
    unfold b2n
    by_cases h2 : ∃ j, j < k - 3 ∧ spz k (nu n) j = v
    · rw [if_pos h2, if_pos]
      rw [hasS_iff]
      obtain ⟨j, hj, e⟩ := h2
      exact ⟨j, hj, by show nI (spz k (nu n) j) = _; rw [e]⟩
    · rw [if_neg h2, if_neg]
      intro z
      rw [hasS_iff] at z
      obtain ⟨j, hj, e⟩ := z
      have e : nI (spz k (nu n) j) = nI v := e
      rw [nI_eq (by have := okSp_lt (f4 j hj); omega) (by omega)] at e
      exact h2 ⟨j, hj, e⟩
/-- no split outside 0 .. 127 -/
theorem has_out {k x : Nat} (hk3 : 3 ≤ k) (hk : k ≤ 7) (hx : x < tcount k) {y : Int32} (hy : ¬ ∃ v, v < 128 ∧ nI v = y) : hasT k x y = false := by
  obtain ⟨f1, f2, f3, f4, -⟩ := spf hk3 hk hx
  rw [← has_eq hk3 hk hx]
  cases h : hasS (spz k x) id y (k - 3)
  · rfl
  · rw [hasS_iff] at h
    obtain ⟨j, hj, e⟩ := h
    exact absurd ⟨spz k x j, okSp_lt (f4 j hj), e⟩ hy
theorem sh_out {k : Nat} {nu : Nat → Nat} (hk3 : 3 ≤ k) (hk : k ≤ 7) {y : Int32} (hy : ¬ ∃ v, v < 128 ∧ nI v = y) : ∀ n, (∀ i, i < n → nu i < tcount k) → shQ k nu y n = 0
  | 0, _ => rfl
  | n + 1, h => by rw [shQ, sh_out hk3 hk hy n (fun i hi => h i (by omega)), has_out hk3 hk (h n (by omega)) hy]; rfl
/-- a set that is no split is in no tree -/
theorem has_bad {k x v : Nat} (hk3 : 3 ≤ k) (hk : k ≤ 7) (hx : x < tcount k) (hv : v < 128) (hy : okSp k v = false) : hasT k x (nI v) = false := by
  obtain ⟨f1, f2, f3, f4, -⟩ := spf hk3 hk hx
  rw [← has_eq hk3 hk hx]
  cases h : hasS (spz k x) id (nI v) (k - 3)
  · rfl
  · rw [hasS_iff] at h
    obtain ⟨j, hj, e⟩ := h
    have e : nI (spz k x j) = nI v := e
    rw [nI_eq (by have := okSp_lt (f4 j hj); omega) (by omega)] at e
    have := f4 j hj
    rw [e, hy] at this
    cases this
theorem sh_bad {k : Nat} {nu : Nat → Nat} (hk3 : 3 ≤ k) (hk : k ≤ 7) {v : Nat} (hv : v < 128) (hy : okSp k v = false) : ∀ n, (∀ i, i < n → nu i < tcount k) → shQ k nu (nI v) n = 0
  | 0, _ => rfl
  | n + 1, h => by rw [shQ, sh_bad hk3 hk hv hy n (fun i hi => h i (by omega)), has_bad hk3 hk (h n (by omega)) hv hy]; rfl
/-- two splits that most trees have are in one tree: they go together -/
theorem sh_two {k : Nat} {nu : Nat → Nat} (y z : Int32) : ∀ n, (∀ i, i < n → ¬ (hasT k (nu i) y = true ∧ hasT k (nu i) z = true)) → shQ k nu y n + shQ k nu z n ≤ n
  | 0, _ => Nat.le_refl _
  | n + 1, h => by
    have := sh_two (k := k) (nu := nu) y z n (fun i hi => h i (by omega))
    have h2 := h n (by omega)
    rw [shQ, shQ]
    unfold b2n
    cases h3 : hasT k (nu n) y <;> cases h4 : hasT k (nu n) z <;> simp [h3, h4] at h2 ⊢ <;> omega
theorem sh_cpt {k n : Nat} {nu : Nat → Nat} (hk3 : 3 ≤ k) (hk : k ≤ 7) (hn : ∀ i, i < n → nu i < tcount k) {s t : Nat} (hs : s < 128) (ht : t < 128) (h1 : n < 2 * shQ k nu (nI s) n) (h2 : n < 2 * shQ k nu (nI t) n) : cpt s t = true := by
  by_cases h : ∀ i, i < n → ¬ (hasT k (nu i) (nI s) = true ∧ hasT k (nu i) (nI t) = true)
  · have := sh_two (k := k) (nu := nu) (nI s) (nI t) n h
    omega
  · have ⟨i, hi, h3, h4⟩ : ∃ i, i < n ∧ hasT k (nu i) (nI s) = true ∧ hasT k (nu i) (nI t) = true := by
      by_cases h9 : ∃ i, i < n ∧ hasT k (nu i) (nI s) = true ∧ hasT k (nu i) (nI t) = true
      · exact h9
      · exact absurd (fun i hi z => h9 ⟨i, hi, z.1, z.2⟩) h
    obtain ⟨f1, f2, f3, f4, f5⟩ := spf hk3 hk (hn i hi)
    rw [← has_eq hk3 hk (hn i hi), hasS_iff] at h3 h4
    obtain ⟨a, ha, e1⟩ := h3
    obtain ⟨b, hb, e2⟩ := h4
    have e1 : nI (spz k (nu i) a) = nI s := e1
    have e2 : nI (spz k (nu i) b) = nI t := e2
    rw [nI_eq (by have := okSp_lt (f4 a ha); omega) (by omega)] at e1
    rw [nI_eq (by have := okSp_lt (f4 b hb); omega) (by omega)] at e2
    rw [← e1, ← e2]
    exact f5 a b ha hb
end SPL
end
section
section MEA
theorem popc_on : ∀ s, s < 16 → popc s = onS s 8 := by decide +kernel
theorem me_eq {r : Nat → Int64} {stt : Nat → Nat} {c s : Nat} : ∀ k, (∀ a, a < k → stt (16 * a + c) = lane (r a) c) → meQ stt c s k = meets r c s k
  | 0, _ => rfl
  | k + 1, h => by rw [meQ, meets, me_eq k (fun a ha => h a (by omega)), h k (by omega)]
theorem fw_eq {r : Nat → Int64} {stt : Nat → Nat} {c k : Nat} (h : ∀ a, a < k → stt (16 * a + c) = lane (r a) c) : ∀ s, s ≤ 16 → fwQ stt k c s = fewS r c k s
  | 0, _ => rfl
  | s + 1, hs => by rw [fwQ, fewS, me_eq k h, fw_eq h s (by omega), popc_on s (by omega)]
theorem hv_eq {r : Nat → Int64} {stt : Nat → Nat} {c st : Nat} : ∀ k, (∀ a, a < k → stt (16 * a + c) = lane (r a) c) → hvQ stt c st k = alike r c st k
  | 0, _ => rfl
  | k + 1, h => by rw [hvQ, alike, hv_eq k (fun a ha => h a (by omega)), h k (by omega)]
theorem mx_eq {r : Nat → Int64} {stt : Nat → Nat} {c k : Nat} (h : ∀ a, a < k → stt (16 * a + c) = lane (r a) c) : ∀ st, mxQ stt k c st = mostA r c k st
  | 0 => rfl
  | st + 1 => by rw [mxQ, mostA, mx_eq h st, hv_eq k h]
theorem sm_least {t : tbP} {T : mT} (h : TbR t T) : smQ T false T.2.1 = leastS t.1 t.2.1 t.2.2.1 t.2.2.2 := by
  rw [← h.1, ← h.2.1]
  have : ∀ n, n ≤ T.2.1 → smQ T false n = leastS t.1 t.2.1 T.1 n := by
    intro n
    induction n with
    | zero => intro _; rfl
    | succ n ih =>
      intro hn
      rw [smQ, leastS, ih (by omega), fw_eq (fun a ha => (h.2.2.2.2.1 a n ha (by omega)).1) 16 (Nat.le_refl _), h.2.2.2.2.2 n (by omega), Nat.mul_comm]
      rfl
  exact this _ (Nat.le_refl _)
theorem sm_most {t : tbP} {T : mT} (h : TbR t T) : smQ T true T.2.1 = mostS t.1 t.2.1 t.2.2.1 t.2.2.2 := by
  rw [← h.1, ← h.2.1]
  have : ∀ n, n ≤ T.2.1 → smQ T true n = mostS t.1 t.2.1 T.1 n := by
    intro n
    induction n with
    | zero => intro _; rfl
    | succ n ih =>
      intro hn
      rw [smQ, mostS, ih (by omega), mx_eq (fun a ha => (h.2.2.2.2.1 a n ha (by omega)).1) 4, h.2.2.2.2.2 n (by omega), Nat.mul_comm]
      rfl
  exact this _ (Nat.le_refl _)
end MEA
section PAR
theorem nib_pow (v e j : Nat) (hv : v < 16) : nib (v * 16 ^ e) j = if j = e then v else 0 := by
  unfold nib
  by_cases h : j = e
  · subst h
    rw [if_pos rfl, Nat.mul_div_cancel _ (Nat.pow_pos (by decide)), Nat.mod_eq_of_lt hv]
  · rw [if_neg h]
    rcases Nat.lt_or_gt_of_ne h with h | h
    · obtain ⟨d, rfl⟩ : ∃ d, e = j + (d + 1) := ⟨e - j - 1, by omega⟩
      rw [Nat.pow_add, show v * (16 ^ j * 16 ^ (d + 1)) = 16 ^ j * (v * 16 ^ (d + 1)) by rw [Nat.mul_left_comm], Nat.mul_div_cancel_left _ (Nat.pow_pos (by decide)), Nat.pow_succ, ← Nat.mul_assoc, Nat.mul_mod_left]
    · rw [Nat.div_eq_of_lt]
      obtain ⟨d, rfl⟩ : ∃ d, j = e + (d + 1) := ⟨j - e - 1, by omega⟩
      rw [Nat.pow_add, Nat.mul_comm]
      apply Nat.mul_lt_mul_of_pos_left
      · exact Nat.lt_of_lt_of_le hv (by rw [Nat.pow_succ]; have := Nat.pow_pos (n := d) (show 0 < 16 by decide); omega)
      · exact Nat.pow_pos (by decide)
theorem lane_put (x : Int64) (v e j : Nat) (hv : v < 16) (he : e < 16) : lane (x ||| lN (v * 16 ^ e)) j = lane x j ||| (if j = e then v else 0) := by
  rw [lane_or]
  congr 1
  rw [lane_nib]
  have : (lN (v * 16 ^ e)).toBitVec.toNat = v * 16 ^ e := by
    show (BitVec.ofNat 64 (v * 16 ^ e)).toNat = _
    rw [BitVec.toNat_ofNat, Nat.mod_eq_of_lt]
    have : 16 ^ e ≤ 16 ^ 15 := Nat.pow_le_pow_right (by decide) (by omega)
    calc v * 16 ^ e ≤ 15 * 16 ^ 15 := Nat.mul_le_mul (by omega) this
      _ < 2 ^ 64 := by decide
  rw [this, nib_pow _ _ _ hv]
theorem rs_lt (t : Nat → Nat) (n lm a0 : Nat) : ∀ i, i ≤ 4 → (rsS t n lm a0 i).1 < 2 ^ i
  | 0, _ => by show 0 < 1; decide
  | i + 1, hi => by
    have := rs_lt t n lm a0 i (by omega)
    rw [rsS]
    split
    · exact Nat.or_lt_two_pow (Nat.lt_of_lt_of_le this (Nat.pow_le_pow_right (by decide) (by omega))) (Nat.pow_lt_pow_right (by decide) (by omega))
    · rw [Nat.pow_succ]; omega
theorem en_lt (t : Nat → Nat) (n a : Nat) : (enF t n a).1 < 16 := by
  have h1 := rs_lt t n 4 (a + 1) 4 (Nat.le_refl _)
  have h2 := rs_lt t n 1 a 4 (Nat.le_refl _)
  unfold enF
  split
  · show 15 < 16; decide
  · split
    · split
      · show 0 < 16; decide
      · split
        · exact h1
        · show 0 < 16; decide
    · exact h2
/-- rows alike: kind by kind, below a character -/
def RwR (r : Nat → Int64) (r2 : Nat → Nat) (kd e : Nat) : Prop := (∀ j, j < e → r2 (16 * kd + j) = lane (r kd) j ∧ ¬ lane (r kd) j = 0) ∧ ∀ j, e ≤ j → lane (r kd) j = 0
theorem rwL_eq {t : Nat → Nat} {n kd : Nat} : ∀ (f e a : Nat) (r : Nat → Int64) (r2 : Nat → Nat), e + f ≤ 16 → RwR r r2 kd e →
    (rwL t n kd f e a r).1 = (rwL2 t n kd f e a r2).1 ∧ (rwL t n kd f e a r).2.1 = (rwL2 t n kd f e a r2).2.1 ∧ (rwL t n kd f e a r).2.2.1 = (rwL2 t n kd f e a r2).2.2.1 ∧
    RwR (rwL t n kd f e a r).2.2.2 (rwL2 t n kd f e a r2).2.2.2 kd (rwL t n kd f e a r).2.1 ∧ (∀ a', a' ≠ kd → (rwL t n kd f e a r).2.2.2 a' = r a') ∧ (∀ a' j, a' ≠ kd → j < 16 → (rwL2 t n kd f e a r2).2.2.2 (16 * a' + j) = r2 (16 * a' + j)) ∧ e ≤ (rwL t n kd f e a r).2.1
  | 0, e, a, r, r2, _, h => ⟨rfl, rfl, rfl, h, fun _ _ => rfl, fun _ _ _ _ => rfl, Nat.le_refl _⟩
  | f + 1, e, a, r, r2, hf, h => by
    rw [rwL, rwL2]
    split
    · exact ⟨rfl, rfl, rfl, h, fun _ _ => rfl, fun _ _ _ _ => rfl, Nat.le_refl _⟩
    · split
      · exact ⟨rfl, rfl, rfl, h, fun _ _ => rfl, fun _ _ _ _ => rfl, Nat.le_refl _⟩
      · rename_i h2
        have hv := en_lt t n a
        have hR : RwR (vp_updL r kd (r kd ||| lN ((enF t n a).1 * 16 ^ e))) (upN r2 (16 * kd + e) (enF t n a).1) kd (e + 1) := by
          refine ⟨fun j hj => ?_, fun j hj => ?_⟩
          · rw [pk_uLs, lane_put _ _ _ _ hv (by omega)]
            by_cases hje : j = e
            · subst hje
              rw [upN_s, if_pos rfl, h.2 j (Nat.le_refl _), Nat.zero_or]
              exact ⟨rfl, h2⟩
            · rw [upN_n (by omega), if_neg hje, Nat.or_zero]
              exact h.1 j (by omega)
          · rw [pk_uLs, lane_put _ _ _ _ hv (by omega), if_neg (by omega), Nat.or_zero]
            exact h.2 j (by omega)
        obtain ⟨i1, i2, i3, i4, i5, i6, i7⟩ := rwL_eq (t := t) (n := n) (kd := kd) f (e + 1) (enF t n a).2 _ _ (by omega) hR
        refine ⟨i1, i2, i3, i4, fun a' ha' => ?_, fun a' j ha' hj => ?_, by omega⟩
        · rw [i5 a' ha', pk_uLn ha']
        · rw [i6 a' j ha' hj, upN_n (by omega)]
theorem rwL_le {t : Nat → Nat} {n kd : Nat} : ∀ (f e a : Nat) (r : Nat → Int64), (rwL t n kd f e a r).2.1 ≤ e + f ∧ ((rwL t n kd f e a r).1 = true → 0 < f → (kd ≠ 0 → (rwL t n kd f e a r).2.1 = e + f) ∧ 0 < (rwL t n kd f e a r).2.1)
  | 0, e, a, r => ⟨Nat.le_refl _, fun _ h => by omega⟩
  | f + 1, e, a, r => by
    rw [rwL]
    split
    · rename_i h
      exact ⟨by show e ≤ e + (f + 1); omega, fun _ _ => ⟨fun z => absurd h.1.1 z, h.1.2⟩⟩
    · split
      · exact ⟨by show e ≤ e + (f + 1); omega, fun z => by cases z⟩
      · obtain ⟨i1, i2⟩ := rwL_le (t := t) (n := n) (kd := kd) f (e + 1) (enF t n a).2 (vp_updL r kd (r kd ||| lN ((enF t n a).1 * 16 ^ e)))
        refine ⟨by omega, fun h1 _ => ?_⟩
        by_cases hf : f = 0
        · subst hf
          refine ⟨fun _ => ?_, ?_⟩
          · show e + 1 = _; omega
          · show 0 < e + 1; omega
        · have := i2 h1 (by omega)
          exact ⟨fun z => by have := this.1 z; omega, this.2⟩
theorem rwF_eq {t : Nat → Nat} {n kd a : Nat} {r : Nat → Int64} {r2 : Nat → Nat} {c : Nat} (hc : c ≤ 16) (h0 : ∀ j, lane (r kd) j = 0) :
    (rwF t n kd a r c).1 = (rwF2 t n kd a r2 c).1 ∧ (rwF t n kd a r c).2.1 = (rwF2 t n kd a r2 c).2.1 ∧ (rwF t n kd a r c).2.2.2 = (rwF2 t n kd a r2 c).2.2.2 ∧ (rwF t n kd a r c).2.2.2 ≤ 16 ∧ (kd ≠ 0 → (rwF t n kd a r c).1 = true → (rwF t n kd a r c).2.2.2 = c ∨ c = 0) ∧
    ((rwF t n kd a r c).1 = true → RwR (rwF t n kd a r c).2.2.1 (rwF2 t n kd a r2 c).2.2.1 kd (rwF t n kd a r c).2.2.2) ∧ (∀ a', a' ≠ kd → (rwF t n kd a r c).2.2.1 a' = r a') ∧ (∀ a' j, a' ≠ kd → j < 16 → (rwF2 t n kd a r2 c).2.2.1 (16 * a' + j) = r2 (16 * a' + j)) := by
  unfold rwF rwF2
  split
  · exact ⟨rfl, rfl, rfl, hc, (fun _ h => by cases h), (fun h => by cases h), fun _ _ => rfl, fun _ _ _ _ => rfl⟩
  · split
    · exact ⟨rfl, rfl, rfl, hc, (fun _ h => by cases h), (fun h => by cases h), fun _ _ => rfl, fun _ _ _ _ => rfl⟩
    · have hm : (if kd = 0 then 16 else c) ≤ 16 := by split <;> omega
      have hk : kd ≠ 0 → (if kd = 0 then 16 else c) = c := fun z => if_neg z
      generalize (if kd = 0 then 16 else c) = mo at *
      obtain ⟨i1, i2, i3, i4, i5, i6, i7⟩ := rwL_eq (t := t) (n := n) (kd := kd) mo 0 (a + 2) r r2 (by omega) ⟨fun j hj => by omega, fun j _ => h0 j⟩
      obtain ⟨l1, l2⟩ := rwL_le (t := t) (n := n) (kd := kd) mo 0 (a + 2) r
      rw [← i1, ← i2, ← i3]
      split
      · rename_i h1
        refine ⟨rfl, rfl, rfl, by show (rwL t n kd mo 0 (a + 2) r).2.1 ≤ 16; omega, fun hz _ => ?_, fun _ => i4, i5, i6⟩
        show (rwL t n kd mo 0 (a + 2) r).2.1 = c ∨ c = 0
        by_cases hmz : mo = 0
        · have := hk hz; omega
        · have := (l2 h1 (by omega)).1 hz
          have := hk hz
          omega
      · exact ⟨rfl, rfl, rfl, hc, (fun _ h => by cases h), (fun h => by cases h), i5, i6⟩
theorem rdF_eq {t : Nat → Nat} {n : Nat} : ∀ (f kd a : Nat) (r : Nat → Int64) (r2 : Nat → Nat) (k c : Nat), kd + f = 7 → c ≤ 16 → (0 < kd → 0 < c) → (∀ a', a' < kd → RwR r r2 a' c) → (∀ a' j, kd ≤ a' → a' < 7 → lane (r a') j = 0) →
    (rdF t n f kd a r k c).1 = (rdF2 t n f kd a r2 c).1 ∧ (rdF t n f kd a r k c).2.1 = (rdF2 t n f kd a r2 c).2.1 ∧ ((rdF t n f kd a r k c).1 = true → (rdF t n f kd a r k c).2.2.2.1 = (rdF2 t n f kd a r2 c).2.2.2.1 ∧ (rdF t n f kd a r k c).2.2.2.2 = (rdF2 t n f kd a r2 c).2.2.2.2 ∧ (rdF t n f kd a r k c).2.2.2.1 ≤ 7 ∧ (rdF t n f kd a r k c).2.2.2.2 ≤ 16 ∧
      ∀ a', a' < (rdF t n f kd a r k c).2.2.2.1 → RwR (rdF t n f kd a r k c).2.2.1 (rdF2 t n f kd a r2 c).2.2.1 a' (rdF t n f kd a r k c).2.2.2.2)
  | 0, kd, a, r, r2, k, c, _, _, _, _, _ => ⟨rfl, rfl, fun h => by cases h⟩
  | f + 1, kd, a, r, r2, k, c, hf, hc, hp, hR, h0 => by
    obtain ⟨j1, j2, j3, j4, j5, j6, j7, j8⟩ := rwF_eq (t := t) (n := n) (kd := kd) (a := a) (r := r) (r2 := r2) (c := c) hc (fun j => h0 kd j (Nat.le_refl _) (by omega))
    rw [rdF, rdF2, ← j1, ← j2, ← j3]
    by_cases h1 : (rwF t n kd a r c).1 = false
    · rw [if_pos h1, if_pos h1]
      exact ⟨rfl, rfl, fun h => by cases h⟩
    · rw [if_neg h1, if_neg h1]
      have h1 : (rwF t n kd a r c).1 = true := by
        cases h : (rwF t n kd a r c).1
        · exact absurd h h1
        · rfl
      have ec : kd ≠ 0 → (rwF t n kd a r c).2.2.2 = c := by
        intro z
        rcases j5 z h1 with h | h
        · exact h
        · have := hp (by omega); omega
      have hall : ∀ a', a' < kd + 1 → RwR (rwF t n kd a r c).2.2.1 (rwF2 t n kd a r2 c).2.2.1 a' (rwF t n kd a r c).2.2.2 := by
        intro a' ha'
        by_cases e : a' = kd
        · subst e; exact j6 h1
        · have g := hR a' (by omega)
          have e2 := ec (by omega)
          rw [e2]
          refine ⟨fun j hj => ?_, fun j hj => ?_⟩
          · rw [j7 a' e, j8 a' j e (by omega)]; exact g.1 j hj
          · rw [j7 a' e]; exact g.2 j hj
      by_cases h2 : (rwF t n kd a r c).2.1 = n
      · rw [if_pos h2, if_pos h2]
        exact ⟨rfl, rfl, fun _ => ⟨rfl, rfl, by show kd + 1 ≤ 7; omega, j4, hall⟩⟩
      · rw [if_neg h2, if_neg h2]
        refine rdF_eq f (kd + 1) _ _ _ (kd + 1) _ (by omega) j4 (fun _ => ?_) hall (fun a' j h3 h4 => ?_)
        · -- some character was read
          by_cases z : kd = 0
          · have hmo : 0 < (if kd = 0 then 16 else c) := by rw [if_pos z]; decide
            have : (rwF t n kd a r c).2.2.2 ≠ 0 := by
              intro e9
              unfold rwF at h1 e9
              generalize (if kd = 0 then 16 else c) = mo at h1 e9 hmo
              split at h1
              · cases h1
              · rename_i q1
                rw [if_neg q1] at e9
                split at h1
                · cases h1
                · rename_i q2
                  rw [if_neg q2] at e9
                  split at h1
                  · rename_i q3
                    rw [if_pos q3] at e9
                    have := ((rwL_le (t := t) (n := n) (kd := kd) mo 0 (a + 2) r).2 q3 hmo).2
                    have e9 : (rwL t n kd mo 0 (a + 2) r).2.1 = 0 := e9
                    omega
                  · cases h1
            omega
          · rw [ec z]; exact hp (by omega)
        · rw [j7 a' (by omega)]; exact h0 a' j (by omega) h4
end PAR
end
