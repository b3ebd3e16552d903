section
-- ===== PART A: goes FIRST, ahead of the names: the tables' words, and 'selects' of the private methods out of them =====
/-- a private method of a class that the tables say can be made, by its rows of tables_1 -/
def lw_okq (q : MethodName × Nat) : Prop := (q.1.cls ≠ "java/lang/invoke/MethodHandle" ∧ q.1.cls ≠ "java/lang/invoke/VarHandle") ∧ Cond.instantiable q.1.cls q.2 ∈ tables_1 ∧ Cond.privateMethod q.1 ∈ tables_1 ∧ Cond.instanceMethod q.1 ∈ tables_1
theorem lw_p0 : lw_okq (⟨"TalkTrees$Text", "takeToken", "()V"⟩, 7) := ⟨⟨by decide +kernel, by decide +kernel⟩, List.mem_of_getElem? (i := 27) (by decide +kernel), List.mem_of_getElem? (i := 252) (by decide +kernel), List.mem_of_getElem? (i := 253) (by decide +kernel)⟩
theorem lw_p1 : lw_okq (⟨"TalkTrees$Text", "isFigure", "(I)Z"⟩, 7) := ⟨⟨by decide +kernel, by decide +kernel⟩, List.mem_of_getElem? (i := 27) (by decide +kernel), List.mem_of_getElem? (i := 256) (by decide +kernel), List.mem_of_getElem? (i := 257) (by decide +kernel)⟩
theorem lw_p2 : lw_okq (⟨"TalkTrees$Text", "isSmallLetter", "(I)Z"⟩, 7) := ⟨⟨by decide +kernel, by decide +kernel⟩, List.mem_of_getElem? (i := 27) (by decide +kernel), List.mem_of_getElem? (i := 260) (by decide +kernel), List.mem_of_getElem? (i := 261) (by decide +kernel)⟩
theorem lw_p3 : lw_okq (⟨"TalkTrees$Text", "readItem", "(LTalkTrees$Talk;I)Z"⟩, 7) := ⟨⟨by decide +kernel, by decide +kernel⟩, List.mem_of_getElem? (i := 27) (by decide +kernel), List.mem_of_getElem? (i := 264) (by decide +kernel), List.mem_of_getElem? (i := 265) (by decide +kernel)⟩
theorem lw_p4 : lw_okq (⟨"TalkTrees$Text", "isWord", "(Ljava/lang/String;)Z"⟩, 7) := ⟨⟨by decide +kernel, by decide +kernel⟩, List.mem_of_getElem? (i := 27) (by decide +kernel), List.mem_of_getElem? (i := 269) (by decide +kernel), List.mem_of_getElem? (i := 270) (by decide +kernel)⟩
theorem lw_p5 : lw_okq (⟨"TalkTrees$Text", "readNodes", "(LTalkTrees$Talk;)Z"⟩, 7) := ⟨⟨by decide +kernel, by decide +kernel⟩, List.mem_of_getElem? (i := 27) (by decide +kernel), List.mem_of_getElem? (i := 321) (by decide +kernel), List.mem_of_getElem? (i := 322) (by decide +kernel)⟩
theorem lw_p6 : lw_okq (⟨"TalkTrees$Text", "takeFigure", "(II)Z"⟩, 7) := ⟨⟨by decide +kernel, by decide +kernel⟩, List.mem_of_getElem? (i := 27) (by decide +kernel), List.mem_of_getElem? (i := 325) (by decide +kernel), List.mem_of_getElem? (i := 326) (by decide +kernel)⟩
theorem lw_p7 : lw_okq (⟨"TalkTrees$Text", "readSource", "(LTalkTrees$Talk;)Z"⟩, 7) := ⟨⟨by decide +kernel, by decide +kernel⟩, List.mem_of_getElem? (i := 27) (by decide +kernel), List.mem_of_getElem? (i := 330) (by decide +kernel), List.mem_of_getElem? (i := 331) (by decide +kernel)⟩
theorem lw_p8 : lw_okq (⟨"TalkTrees$Text", "readLimit", "(LTalkTrees$Talk;)Z"⟩, 7) := ⟨⟨by decide +kernel, by decide +kernel⟩, List.mem_of_getElem? (i := 27) (by decide +kernel), List.mem_of_getElem? (i := 335) (by decide +kernel), List.mem_of_getElem? (i := 336) (by decide +kernel)⟩
theorem lw_p9 : lw_okq (⟨"TalkTrees$Text", "readLink", "(LTalkTrees$Talk;)Z"⟩, 7) := ⟨⟨by decide +kernel, by decide +kernel⟩, List.mem_of_getElem? (i := 27) (by decide +kernel), List.mem_of_getElem? (i := 340) (by decide +kernel), List.mem_of_getElem? (i := 341) (by decide +kernel)⟩
theorem lw_p10 : lw_okq (⟨"TalkTrees$Text", "takeSemicolon", "()Z"⟩, 7) := ⟨⟨by decide +kernel, by decide +kernel⟩, List.mem_of_getElem? (i := 27) (by decide +kernel), List.mem_of_getElem? (i := 363) (by decide +kernel), List.mem_of_getElem? (i := 364) (by decide +kernel)⟩
theorem lw_p11 : lw_okq (⟨"TalkTrees", "role", "(I)I"⟩, 9) := ⟨⟨by decide +kernel, by decide +kernel⟩, List.mem_of_getElem? (i := 19) (by decide +kernel), List.mem_of_getElem? (i := 391) (by decide +kernel), List.mem_of_getElem? (i := 392) (by decide +kernel)⟩
theorem lw_p12 : lw_okq (⟨"TalkTrees", "hasWay", "(I)Z"⟩, 9) := ⟨⟨by decide +kernel, by decide +kernel⟩, List.mem_of_getElem? (i := 19) (by decide +kernel), List.mem_of_getElem? (i := 399) (by decide +kernel), List.mem_of_getElem? (i := 400) (by decide +kernel)⟩
theorem lw_p13 : lw_okq (⟨"TalkTrees$Ways", "shorten", "(III)V"⟩, 2) := ⟨⟨by decide +kernel, by decide +kernel⟩, List.mem_of_getElem? (i := 159) (by decide +kernel), List.mem_of_getElem? (i := 427) (by decide +kernel), List.mem_of_getElem? (i := 428) (by decide +kernel)⟩
theorem lw_p14 : lw_okq (⟨"TalkTrees$Ways", "firstStep", "(LTalkTrees$Talk;I)I"⟩, 2) := ⟨⟨by decide +kernel, by decide +kernel⟩, List.mem_of_getElem? (i := 159) (by decide +kernel), List.mem_of_getElem? (i := 445) (by decide +kernel), List.mem_of_getElem? (i := 446) (by decide +kernel)⟩
theorem lw_p15 : lw_okq (⟨"TalkTrees$Builder", "nearest", "(LTalkTrees$Talk;I)I"⟩, 1) := ⟨⟨by decide +kernel, by decide +kernel⟩, List.mem_of_getElem? (i := 153) (by decide +kernel), List.mem_of_getElem? (i := 474) (by decide +kernel), List.mem_of_getElem? (i := 475) (by decide +kernel)⟩
def lw_privs_1 : List (MethodName × Nat) := [(⟨"TalkTrees$Text", "takeToken", "()V"⟩, 7), (⟨"TalkTrees$Text", "isFigure", "(I)Z"⟩, 7), (⟨"TalkTrees$Text", "isSmallLetter", "(I)Z"⟩, 7), (⟨"TalkTrees$Text", "readItem", "(LTalkTrees$Talk;I)Z"⟩, 7), (⟨"TalkTrees$Text", "isWord", "(Ljava/lang/String;)Z"⟩, 7), (⟨"TalkTrees$Text", "readNodes", "(LTalkTrees$Talk;)Z"⟩, 7), (⟨"TalkTrees$Text", "takeFigure", "(II)Z"⟩, 7), (⟨"TalkTrees$Text", "readSource", "(LTalkTrees$Talk;)Z"⟩, 7), (⟨"TalkTrees$Text", "readLimit", "(LTalkTrees$Talk;)Z"⟩, 7), (⟨"TalkTrees$Text", "readLink", "(LTalkTrees$Talk;)Z"⟩, 7), (⟨"TalkTrees$Text", "takeSemicolon", "()Z"⟩, 7), (⟨"TalkTrees", "role", "(I)I"⟩, 9), (⟨"TalkTrees", "hasWay", "(I)Z"⟩, 9), (⟨"TalkTrees$Ways", "shorten", "(III)V"⟩, 2), (⟨"TalkTrees$Ways", "firstStep", "(LTalkTrees$Talk;I)I"⟩, 2), (⟨"TalkTrees$Builder", "nearest", "(LTalkTrees$Talk;I)I"⟩, 1)]
theorem lw_r1 : ∀ q ∈ lw_privs_1, lw_okq q := List.forall_mem_cons.mpr ⟨lw_p0, List.forall_mem_cons.mpr ⟨lw_p1, List.forall_mem_cons.mpr ⟨lw_p2, List.forall_mem_cons.mpr ⟨lw_p3, List.forall_mem_cons.mpr ⟨lw_p4, List.forall_mem_cons.mpr ⟨lw_p5, List.forall_mem_cons.mpr ⟨lw_p6, List.forall_mem_cons.mpr ⟨lw_p7, List.forall_mem_cons.mpr ⟨lw_p8, List.forall_mem_cons.mpr ⟨lw_p9, List.forall_mem_cons.mpr ⟨lw_p10, List.forall_mem_cons.mpr ⟨lw_p11, List.forall_mem_cons.mpr ⟨lw_p12, List.forall_mem_cons.mpr ⟨lw_p13, List.forall_mem_cons.mpr ⟨lw_p14, List.forall_mem_cons.mpr ⟨lw_p15, fun _ h => absurd h List.not_mem_nil⟩⟩⟩⟩⟩⟩⟩⟩⟩⟩⟩⟩⟩⟩⟩⟩
theorem lw_p16 : lw_okq (⟨"TalkTrees$Builder", "joinAgain", "(LTalkTrees$Talk;)V"⟩, 1) := ⟨⟨by decide +kernel, by decide +kernel⟩, List.mem_of_getElem? (i := 153) (by decide +kernel), List.mem_of_getElem? (i := 536) (by decide +kernel), List.mem_of_getElem? (i := 537) (by decide +kernel)⟩
theorem lw_p17 : lw_okq (⟨"TalkTrees", "far", "(I)I"⟩, 9) := ⟨⟨by decide +kernel, by decide +kernel⟩, List.mem_of_getElem? (i := 19) (by decide +kernel), List.mem_of_getElem? (i := 576) (by decide +kernel), List.mem_of_getElem? (i := 577) (by decide +kernel)⟩
theorem lw_p18 : lw_okq (⟨"TalkTrees", "fittingNodes", "()I"⟩, 9) := ⟨⟨by decide +kernel, by decide +kernel⟩, List.mem_of_getElem? (i := 19) (by decide +kernel), List.mem_of_getElem? (i := 647) (by decide +kernel), List.mem_of_getElem? (i := 648) (by decide +kernel)⟩
theorem lw_p19 : lw_okq (⟨"TalkTreesModel", "reads", "()I"⟩, 17) := ⟨⟨by decide +kernel, by decide +kernel⟩, List.mem_of_getElem? (i := 675) (by decide +kernel), List.mem_of_getElem? (i := 748) (by decide +kernel), List.mem_of_getElem? (i := 749) (by decide +kernel)⟩
theorem lw_p20 : lw_okq (⟨"TalkTreesModel", "steps", "()V"⟩, 17) := ⟨⟨by decide +kernel, by decide +kernel⟩, List.mem_of_getElem? (i := 675) (by decide +kernel), List.mem_of_getElem? (i := 752) (by decide +kernel), List.mem_of_getElem? (i := 753) (by decide +kernel)⟩
theorem lw_p21 : lw_okq (⟨"TalkTreesModel", "at", "(I)I"⟩, 17) := ⟨⟨by decide +kernel, by decide +kernel⟩, List.mem_of_getElem? (i := 675) (by decide +kernel), List.mem_of_getElem? (i := 756) (by decide +kernel), List.mem_of_getElem? (i := 757) (by decide +kernel)⟩
theorem lw_p22 : lw_okq (⟨"TalkTreesModel", "wordOf", "()I"⟩, 17) := ⟨⟨by decide +kernel, by decide +kernel⟩, List.mem_of_getElem? (i := 675) (by decide +kernel), List.mem_of_getElem? (i := 760) (by decide +kernel), List.mem_of_getElem? (i := 761) (by decide +kernel)⟩
theorem lw_p23 : lw_okq (⟨"TalkTreesModel", "code", "()I"⟩, 17) := ⟨⟨by decide +kernel, by decide +kernel⟩, List.mem_of_getElem? (i := 675) (by decide +kernel), List.mem_of_getElem? (i := 764) (by decide +kernel), List.mem_of_getElem? (i := 765) (by decide +kernel)⟩
theorem lw_p24 : lw_okq (⟨"TalkTreesModel", "takes", "(Z)V"⟩, 17) := ⟨⟨by decide +kernel, by decide +kernel⟩, List.mem_of_getElem? (i := 675) (by decide +kernel), List.mem_of_getElem? (i := 768) (by decide +kernel), List.mem_of_getElem? (i := 769) (by decide +kernel)⟩
theorem lw_p25 : lw_okq (⟨"TalkTreesModel", "figure", "(II)I"⟩, 17) := ⟨⟨by decide +kernel, by decide +kernel⟩, List.mem_of_getElem? (i := 675) (by decide +kernel), List.mem_of_getElem? (i := 772) (by decide +kernel), List.mem_of_getElem? (i := 773) (by decide +kernel)⟩
theorem lw_p26 : lw_okq (⟨"TalkTreesModel", "readsLink", "()V"⟩, 17) := ⟨⟨by decide +kernel, by decide +kernel⟩, List.mem_of_getElem? (i := 675) (by decide +kernel), List.mem_of_getElem? (i := 776) (by decide +kernel), List.mem_of_getElem? (i := 777) (by decide +kernel)⟩
theorem lw_p27 : lw_okq (⟨"TalkTreesModel", "areLinked", "(II)Z"⟩, 17) := ⟨⟨by decide +kernel, by decide +kernel⟩, List.mem_of_getElem? (i := 675) (by decide +kernel), List.mem_of_getElem? (i := 780) (by decide +kernel), List.mem_of_getElem? (i := 781) (by decide +kernel)⟩
theorem lw_p28 : lw_okq (⟨"TalkTreesModel", "notes", "()V"⟩, 17) := ⟨⟨by decide +kernel, by decide +kernel⟩, List.mem_of_getElem? (i := 675) (by decide +kernel), List.mem_of_getElem? (i := 784) (by decide +kernel), List.mem_of_getElem? (i := 785) (by decide +kernel)⟩
theorem lw_p29 : lw_okq (⟨"TalkTreesModel", "isNode", "(I)Z"⟩, 17) := ⟨⟨by decide +kernel, by decide +kernel⟩, List.mem_of_getElem? (i := 675) (by decide +kernel), List.mem_of_getElem? (i := 792) (by decide +kernel), List.mem_of_getElem? (i := 793) (by decide +kernel)⟩
theorem lw_p30 : lw_okq (⟨"TalkTreesModel", "nodesOf", "(I)I"⟩, 17) := ⟨⟨by decide +kernel, by decide +kernel⟩, List.mem_of_getElem? (i := 675) (by decide +kernel), List.mem_of_getElem? (i := 796) (by decide +kernel), List.mem_of_getElem? (i := 797) (by decide +kernel)⟩
theorem lw_p31 : lw_okq (⟨"TalkTreesModel", "measures", "(I)V"⟩, 17) := ⟨⟨by decide +kernel, by decide +kernel⟩, List.mem_of_getElem? (i := 675) (by decide +kernel), List.mem_of_getElem? (i := 803) (by decide +kernel), List.mem_of_getElem? (i := 804) (by decide +kernel)⟩
def lw_privs_2 : List (MethodName × Nat) := [(⟨"TalkTrees$Builder", "joinAgain", "(LTalkTrees$Talk;)V"⟩, 1), (⟨"TalkTrees", "far", "(I)I"⟩, 9), (⟨"TalkTrees", "fittingNodes", "()I"⟩, 9), (⟨"TalkTreesModel", "reads", "()I"⟩, 17), (⟨"TalkTreesModel", "steps", "()V"⟩, 17), (⟨"TalkTreesModel", "at", "(I)I"⟩, 17), (⟨"TalkTreesModel", "wordOf", "()I"⟩, 17), (⟨"TalkTreesModel", "code", "()I"⟩, 17), (⟨"TalkTreesModel", "takes", "(Z)V"⟩, 17), (⟨"TalkTreesModel", "figure", "(II)I"⟩, 17), (⟨"TalkTreesModel", "readsLink", "()V"⟩, 17), (⟨"TalkTreesModel", "areLinked", "(II)Z"⟩, 17), (⟨"TalkTreesModel", "notes", "()V"⟩, 17), (⟨"TalkTreesModel", "isNode", "(I)Z"⟩, 17), (⟨"TalkTreesModel", "nodesOf", "(I)I"⟩, 17), (⟨"TalkTreesModel", "measures", "(I)V"⟩, 17)]
theorem lw_r2 : ∀ q ∈ lw_privs_2, lw_okq q := List.forall_mem_cons.mpr ⟨lw_p16, List.forall_mem_cons.mpr ⟨lw_p17, List.forall_mem_cons.mpr ⟨lw_p18, List.forall_mem_cons.mpr ⟨lw_p19, List.forall_mem_cons.mpr ⟨lw_p20, List.forall_mem_cons.mpr ⟨lw_p21, List.forall_mem_cons.mpr ⟨lw_p22, List.forall_mem_cons.mpr ⟨lw_p23, List.forall_mem_cons.mpr ⟨lw_p24, List.forall_mem_cons.mpr ⟨lw_p25, List.forall_mem_cons.mpr ⟨lw_p26, List.forall_mem_cons.mpr ⟨lw_p27, List.forall_mem_cons.mpr ⟨lw_p28, List.forall_mem_cons.mpr ⟨lw_p29, List.forall_mem_cons.mpr ⟨lw_p30, List.forall_mem_cons.mpr ⟨lw_p31, fun _ h => absurd h List.not_mem_nil⟩⟩⟩⟩⟩⟩⟩⟩⟩⟩⟩⟩⟩⟩⟩⟩
theorem lw_p32 : lw_okq (⟨"TalkTreesModel", "wayOf", "(I)I"⟩, 17) := ⟨⟨by decide +kernel, by decide +kernel⟩, List.mem_of_getElem? (i := 675) (by decide +kernel), List.mem_of_getElem? (i := 808) (by decide +kernel), List.mem_of_getElem? (i := 809) (by decide +kernel)⟩
theorem lw_p33 : lw_okq (⟨"TalkTreesModel", "nextLink", "(I)I"⟩, 17) := ⟨⟨by decide +kernel, by decide +kernel⟩, List.mem_of_getElem? (i := 675) (by decide +kernel), List.mem_of_getElem? (i := 812) (by decide +kernel), List.mem_of_getElem? (i := 813) (by decide +kernel)⟩
theorem lw_p34 : lw_okq (⟨"TalkTreesModel", "beyond", "(II)I"⟩, 17) := ⟨⟨by decide +kernel, by decide +kernel⟩, List.mem_of_getElem? (i := 675) (by decide +kernel), List.mem_of_getElem? (i := 816) (by decide +kernel), List.mem_of_getElem? (i := 817) (by decide +kernel)⟩
theorem lw_p35 : lw_okq (⟨"TalkTreesModel", "marks", "(I)V"⟩, 17) := ⟨⟨by decide +kernel, by decide +kernel⟩, List.mem_of_getElem? (i := 675) (by decide +kernel), List.mem_of_getElem? (i := 820) (by decide +kernel), List.mem_of_getElem? (i := 821) (by decide +kernel)⟩
theorem lw_p36 : lw_okq (⟨"TalkTreesModel", "markOf", "(I)I"⟩, 17) := ⟨⟨by decide +kernel, by decide +kernel⟩, List.mem_of_getElem? (i := 675) (by decide +kernel), List.mem_of_getElem? (i := 824) (by decide +kernel), List.mem_of_getElem? (i := 825) (by decide +kernel)⟩
theorem lw_p37 : lw_okq (⟨"TalkTreesModel", "anew", "()I"⟩, 17) := ⟨⟨by decide +kernel, by decide +kernel⟩, List.mem_of_getElem? (i := 675) (by decide +kernel), List.mem_of_getElem? (i := 828) (by decide +kernel), List.mem_of_getElem? (i := 829) (by decide +kernel)⟩
theorem lw_p38 : lw_okq (⟨"TalkTreesModel", "costOf", "(I)I"⟩, 17) := ⟨⟨by decide +kernel, by decide +kernel⟩, List.mem_of_getElem? (i := 675) (by decide +kernel), List.mem_of_getElem? (i := 832) (by decide +kernel), List.mem_of_getElem? (i := 833) (by decide +kernel)⟩
theorem lw_p39 : lw_okq (⟨"TalkTreesModel", "bares", "()V"⟩, 17) := ⟨⟨by decide +kernel, by decide +kernel⟩, List.mem_of_getElem? (i := 675) (by decide +kernel), List.mem_of_getElem? (i := 836) (by decide +kernel), List.mem_of_getElem? (i := 837) (by decide +kernel)⟩
theorem lw_p40 : lw_okq (⟨"TalkTreesModel", "pruned", "(I)I"⟩, 17) := ⟨⟨by decide +kernel, by decide +kernel⟩, List.mem_of_getElem? (i := 675) (by decide +kernel), List.mem_of_getElem? (i := 844) (by decide +kernel), List.mem_of_getElem? (i := 845) (by decide +kernel)⟩
theorem lw_p41 : lw_okq (⟨"TalkTreesModel", "isLink", "(I)Z"⟩, 17) := ⟨⟨by decide +kernel, by decide +kernel⟩, List.mem_of_getElem? (i := 675) (by decide +kernel), List.mem_of_getElem? (i := 856) (by decide +kernel), List.mem_of_getElem? (i := 857) (by decide +kernel)⟩
theorem lw_p42 : lw_okq (⟨"TalkTreesModel", "hanging", "(I)I"⟩, 17) := ⟨⟨by decide +kernel, by decide +kernel⟩, List.mem_of_getElem? (i := 675) (by decide +kernel), List.mem_of_getElem? (i := 860) (by decide +kernel), List.mem_of_getElem? (i := 861) (by decide +kernel)⟩
theorem lw_p43 : lw_okq (⟨"TalkTreesModel", "load", "(I)I"⟩, 17) := ⟨⟨by decide +kernel, by decide +kernel⟩, List.mem_of_getElem? (i := 675) (by decide +kernel), List.mem_of_getElem? (i := 883) (by decide +kernel), List.mem_of_getElem? (i := 884) (by decide +kernel)⟩
theorem lw_p44 : lw_okq (⟨"TalkTreesModel", "farOf", "(I)I"⟩, 17) := ⟨⟨by decide +kernel, by decide +kernel⟩, List.mem_of_getElem? (i := 675) (by decide +kernel), List.mem_of_getElem? (i := 891) (by decide +kernel), List.mem_of_getElem? (i := 892) (by decide +kernel)⟩
theorem lw_p45 : lw_okq (⟨"TalkTreesModel", "linksAt", "(I)I"⟩, 17) := ⟨⟨by decide +kernel, by decide +kernel⟩, List.mem_of_getElem? (i := 675) (by decide +kernel), List.mem_of_getElem? (i := 895) (by decide +kernel), List.mem_of_getElem? (i := 896) (by decide +kernel)⟩
theorem lw_p46 : lw_okq (⟨"TalkTreesModel", "away", "(II)I"⟩, 17) := ⟨⟨by decide +kernel, by decide +kernel⟩, List.mem_of_getElem? (i := 675) (by decide +kernel), List.mem_of_getElem? (i := 899) (by decide +kernel), List.mem_of_getElem? (i := 900) (by decide +kernel)⟩
theorem lw_p47 : lw_okq (⟨"TalkTreesModel", "least", "()I"⟩, 17) := ⟨⟨by decide +kernel, by decide +kernel⟩, List.mem_of_getElem? (i := 675) (by decide +kernel), List.mem_of_getElem? (i := 911) (by decide +kernel), List.mem_of_getElem? (i := 912) (by decide +kernel)⟩
def lw_privs_3 : List (MethodName × Nat) := [(⟨"TalkTreesModel", "wayOf", "(I)I"⟩, 17), (⟨"TalkTreesModel", "nextLink", "(I)I"⟩, 17), (⟨"TalkTreesModel", "beyond", "(II)I"⟩, 17), (⟨"TalkTreesModel", "marks", "(I)V"⟩, 17), (⟨"TalkTreesModel", "markOf", "(I)I"⟩, 17), (⟨"TalkTreesModel", "anew", "()I"⟩, 17), (⟨"TalkTreesModel", "costOf", "(I)I"⟩, 17), (⟨"TalkTreesModel", "bares", "()V"⟩, 17), (⟨"TalkTreesModel", "pruned", "(I)I"⟩, 17), (⟨"TalkTreesModel", "isLink", "(I)Z"⟩, 17), (⟨"TalkTreesModel", "hanging", "(I)I"⟩, 17), (⟨"TalkTreesModel", "load", "(I)I"⟩, 17), (⟨"TalkTreesModel", "farOf", "(I)I"⟩, 17), (⟨"TalkTreesModel", "linksAt", "(I)I"⟩, 17), (⟨"TalkTreesModel", "away", "(II)I"⟩, 17), (⟨"TalkTreesModel", "least", "()I"⟩, 17)]
theorem lw_r3 : ∀ q ∈ lw_privs_3, lw_okq q := List.forall_mem_cons.mpr ⟨lw_p32, List.forall_mem_cons.mpr ⟨lw_p33, List.forall_mem_cons.mpr ⟨lw_p34, List.forall_mem_cons.mpr ⟨lw_p35, List.forall_mem_cons.mpr ⟨lw_p36, List.forall_mem_cons.mpr ⟨lw_p37, List.forall_mem_cons.mpr ⟨lw_p38, List.forall_mem_cons.mpr ⟨lw_p39, List.forall_mem_cons.mpr ⟨lw_p40, List.forall_mem_cons.mpr ⟨lw_p41, List.forall_mem_cons.mpr ⟨lw_p42, List.forall_mem_cons.mpr ⟨lw_p43, List.forall_mem_cons.mpr ⟨lw_p44, List.forall_mem_cons.mpr ⟨lw_p45, List.forall_mem_cons.mpr ⟨lw_p46, List.forall_mem_cons.mpr ⟨lw_p47, fun _ h => absurd h List.not_mem_nil⟩⟩⟩⟩⟩⟩⟩⟩⟩⟩⟩⟩⟩⟩⟩⟩
theorem lw_p48 : lw_okq (⟨"TalkTreesModel", "busiest", "()I"⟩, 17) := ⟨⟨by decide +kernel, by decide +kernel⟩, List.mem_of_getElem? (i := 675) (by decide +kernel), List.mem_of_getElem? (i := 915) (by decide +kernel), List.mem_of_getElem? (i := 916) (by decide +kernel)⟩
theorem lw_p49 : lw_okq (⟨"TalkTreesModel", "needed", "()I"⟩, 17) := ⟨⟨by decide +kernel, by decide +kernel⟩, List.mem_of_getElem? (i := 675) (by decide +kernel), List.mem_of_getElem? (i := 919) (by decide +kernel), List.mem_of_getElem? (i := 920) (by decide +kernel)⟩
def lw_privs_4 : List (MethodName × Nat) := [(⟨"TalkTreesModel", "busiest", "()I"⟩, 17), (⟨"TalkTreesModel", "needed", "()I"⟩, 17)]
theorem lw_r4 : ∀ q ∈ lw_privs_4, lw_okq q := List.forall_mem_cons.mpr ⟨lw_p48, List.forall_mem_cons.mpr ⟨lw_p49, fun _ h => absurd h List.not_mem_nil⟩⟩
def lw_privs : List (MethodName × Nat) := lw_privs_1 ++ (lw_privs_2 ++ (lw_privs_3 ++ (lw_privs_4)))
def lw_tbl : List Cond := k2_sels lw_privs ++ tables_1
theorem lw_privs_ok : ∀ q ∈ lw_privs, lw_okq q := by
  show ∀ q ∈ lw_privs_1 ++ (lw_privs_2 ++ (lw_privs_3 ++ (lw_privs_4))), lw_okq q
  exact List.forall_mem_append.mpr ⟨lw_r1, List.forall_mem_append.mpr ⟨lw_r2, List.forall_mem_append.mpr ⟨lw_r3, lw_r4⟩⟩⟩
end
section
/-! ===== BEGIN printed: names, fields, word lists, decode rows ===== -/
def RX0 : String := "TalkTrees$Builder"
def TX0 : u_T := fun k => match k with
  | _ => ("TalkTrees$Builder", "ways", "LTalkTrees$Ways;", true)
def tyX0 : Nat → FieldType := fun k => match k with
  | _ => .object "TalkTrees$Ways"
abbrev wsX00 : List Cond := u_ws RX0 TX0 1
theorem nmX0 : ∀ a, a < 1 → ∀ b, b < 1 → a ≠ b → (TX0 a).2.1 ≠ (TX0 b).2.1 := by decide +kernel
theorem tyX0_ok : ∀ k, k < 1 → parseFieldDescriptor (TX0 k).2.2.1 = some (tyX0 k) := by decide +kernel
abbrev cX0_init : ByteArray := prog_2_method_1_code
def yX0_init : MethodName := ⟨RX0, "<init>", "()V"⟩
abbrev cX0_join : ByteArray := prog_2_method_2_code
def yX0_join : MethodName := ⟨RX0, "join", "(LTalkTrees$Talk;I)V"⟩
abbrev cX0_leave : ByteArray := prog_2_method_3_code
def yX0_leave : MethodName := ⟨RX0, "leave", "(LTalkTrees$Talk;I)V"⟩
abbrev cX0_mark : ByteArray := prog_2_method_4_code
def yX0_mark : MethodName := ⟨RX0, "mark", "(LTalkTrees$Talk;I)V"⟩
abbrev cX0_rearrange : ByteArray := prog_2_method_5_code
def yX0_rearrange : MethodName := ⟨RX0, "rearrange", "(LTalkTrees$Talk;)V"⟩
abbrev cX0_anew : ByteArray := prog_2_method_6_code
def yX0_anew : MethodName := ⟨RX0, "anew", "(LTalkTrees$Talk;)I"⟩
abbrev cX0_nearest : ByteArray := prog_2_method_7_code
def yX0_nearest : MethodName := ⟨RX0, "nearest", "(LTalkTrees$Talk;I)I"⟩
abbrev cX0_cut : ByteArray := prog_2_method_8_code
def yX0_cut : MethodName := ⟨RX0, "cut", "(LTalkTrees$Talk;I)I"⟩
abbrev cX0_keepHanging : ByteArray := prog_2_method_9_code
def yX0_keepHanging : MethodName := ⟨RX0, "keepHanging", "(LTalkTrees$Talk;I)V"⟩
abbrev cX0_joinAgain : ByteArray := prog_2_method_10_code
def yX0_joinAgain : MethodName := ⟨RX0, "joinAgain", "(LTalkTrees$Talk;)V"⟩
def RX1 : String := "TalkTrees$Least"
def TX1 : u_T := fun k => match k with
  | _ => ("", "", "", false)
def tyX1 : Nat → FieldType := fun k => match k with
  | _ => .int
abbrev wsX10 : List Cond := u_ws RX1 TX1 0
theorem nmX1 : ∀ a, a < 0 → ∀ b, b < 0 → a ≠ b → (TX1 a).2.1 ≠ (TX1 b).2.1 := by decide +kernel
theorem tyX1_ok : ∀ k, k < 0 → parseFieldDescriptor (TX1 k).2.2.1 = some (tyX1 k) := by decide +kernel
abbrev cX1_of : ByteArray := prog_3_method_2_code
def yX1_of : MethodName := ⟨RX1, "of", "(LTalkTrees$Talk;)I"⟩
abbrev cX1_isLess : ByteArray := prog_3_method_3_code
def yX1_isLess : MethodName := ⟨RX1, "isLess", "(LTalkTrees$Talk;II)Z"⟩
abbrev cX1_grow : ByteArray := prog_3_method_4_code
def yX1_grow : MethodName := ⟨RX1, "grow", "(LTalkTrees$Talk;I)I"⟩
abbrev cX1_cheapestOn : ByteArray := prog_3_method_5_code
def yX1_cheapestOn : MethodName := ⟨RX1, "cheapestOn", "(LTalkTrees$Talk;II)I"⟩
def RX2 : String := "TalkTrees$Past"
def TX2 : u_T := fun k => match k with
  | 0 => ("TalkTrees$Past", "known", "[LTalkTrees$Talk;", true)
  | 1 => ("TalkTrees$Past", "size", "I", false)
  | _ => ("TalkTrees$Past", "next", "I", false)
def tyX2 : Nat → FieldType := fun k => match k with
  | 0 => .array (.object "TalkTrees$Talk")
  | 1 => .int
  | _ => .int
abbrev wsX20 : List Cond := u_ws RX2 TX2 3
theorem nmX2 : ∀ a, a < 3 → ∀ b, b < 3 → a ≠ b → (TX2 a).2.1 ≠ (TX2 b).2.1 := by decide +kernel
theorem tyX2_ok : ∀ k, k < 3 → parseFieldDescriptor (TX2 k).2.2.1 = some (tyX2 k) := by decide +kernel
abbrev cX2_init : ByteArray := prog_4_method_1_code
def yX2_init : MethodName := ⟨RX2, "<init>", "()V"⟩
abbrev cX2_remember : ByteArray := prog_4_method_2_code
def yX2_remember : MethodName := ⟨RX2, "remember", "(LTalkTrees$Talk;)V"⟩
abbrev cX2_recall : ByteArray := prog_4_method_3_code
def yX2_recall : MethodName := ⟨RX2, "recall", "(LTalkTrees$Talk;)Z"⟩
abbrev cX2_drop : ByteArray := prog_4_method_4_code
def yX2_drop : MethodName := ⟨RX2, "drop", "()V"⟩
def RX3 : String := "TalkTrees$Sights"
def TX3 : u_T := fun k => match k with
  | 0 => ("TalkTrees$Sights", "whats", "[I", true)
  | 1 => ("TalkTrees$Sights", "numbers", "[I", true)
  | _ => ("TalkTrees$Sights", "size", "I", false)
def tyX3 : Nat → FieldType := fun k => match k with
  | 0 => .array .int
  | 1 => .array .int
  | _ => .int
abbrev wsX30 : List Cond := u_ws RX3 TX3 3
theorem nmX3 : ∀ a, a < 3 → ∀ b, b < 3 → a ≠ b → (TX3 a).2.1 ≠ (TX3 b).2.1 := by decide +kernel
theorem tyX3_ok : ∀ k, k < 3 → parseFieldDescriptor (TX3 k).2.2.1 = some (tyX3 k) := by decide +kernel
abbrev cX3_init : ByteArray := prog_5_method_1_code
def yX3_init : MethodName := ⟨RX3, "<init>", "()V"⟩
abbrev cX3_add : ByteArray := prog_5_method_2_code
def yX3_add : MethodName := ⟨RX3, "add", "(II)Z"⟩
abbrev cX3_empty : ByteArray := prog_5_method_3_code
def yX3_empty : MethodName := ⟨RX3, "empty", "()I"⟩
abbrev cX3_fit : ByteArray := prog_5_method_4_code
def yX3_fit : MethodName := ⟨RX3, "fit", "(II)Z"⟩
def RX4 : String := "TalkTrees$Talk"
def TX4 : u_T := fun k => match k with
  | 0 => ("TalkTrees$Talk", "nodes", "I", false)
  | 1 => ("TalkTrees$Talk", "source", "I", false)
  | 2 => ("TalkTrees$Talk", "limit", "I", false)
  | 3 => ("TalkTrees$Talk", "links", "I", false)
  | 4 => ("TalkTrees$Talk", "first", "[I", true)
  | 5 => ("TalkTrees$Talk", "second", "[I", true)
  | 6 => ("TalkTrees$Talk", "cost", "[I", true)
  | 7 => ("TalkTrees$Talk", "members", "I", false)
  | 8 => ("TalkTrees$Talk", "tree", "I", false)
  | 9 => ("TalkTrees$Talk", "down", "I", false)
  | 10 => ("TalkTrees$Talk", "markCount", "I", false)
  | _ => ("TalkTrees$Talk", "marks", "[I", true)
def tyX4 : Nat → FieldType := fun k => match k with
  | 0 => .int
  | 1 => .int
  | 2 => .int
  | 3 => .int
  | 4 => .array .int
  | 5 => .array .int
  | 6 => .array .int
  | 7 => .int
  | 8 => .int
  | 9 => .int
  | 10 => .int
  | _ => .array .int
abbrev wsX40 : List Cond := u_ws RX4 TX4 12
theorem nmX4 : ∀ a, a < 12 → ∀ b, b < 12 → a ≠ b → (TX4 a).2.1 ≠ (TX4 b).2.1 := by decide +kernel
theorem tyX4_ok : ∀ k, k < 12 → parseFieldDescriptor (TX4 k).2.2.1 = some (tyX4 k) := by decide +kernel
abbrev cX4_init : ByteArray := prog_6_method_1_code
def yX4_init : MethodName := ⟨RX4, "<init>", "()V"⟩
abbrev cX4_beAsAtFirst : ByteArray := prog_6_method_2_code
def yX4_beAsAtFirst : MethodName := ⟨RX4, "beAsAtFirst", "()V"⟩
abbrev cX4_become : ByteArray := prog_6_method_3_code
def yX4_become : MethodName := ⟨RX4, "become", "(LTalkTrees$Talk;)V"⟩
abbrev cX4_hasNode : ByteArray := prog_6_method_4_code
def yX4_hasNode : MethodName := ⟨RX4, "hasNode", "(I)Z"⟩
abbrev cX4_hasLink : ByteArray := prog_6_method_5_code
def yX4_hasLink : MethodName := ⟨RX4, "hasLink", "(I)Z"⟩
abbrev cX4_isMember : ByteArray := prog_6_method_6_code
def yX4_isMember : MethodName := ⟨RX4, "isMember", "(I)Z"⟩
abbrev cX4_addLink : ByteArray := prog_6_method_7_code
def yX4_addLink : MethodName := ⟨RX4, "addLink", "(III)V"⟩
abbrev cX4_areLinked : ByteArray := prog_6_method_8_code
def yX4_areLinked : MethodName := ⟨RX4, "areLinked", "(II)Z"⟩
abbrev cX4_ends : ByteArray := prog_6_method_9_code
def yX4_ends : MethodName := ⟨RX4, "ends", "(I)I"⟩
abbrev cX4_linksAt : ByteArray := prog_6_method_10_code
def yX4_linksAt : MethodName := ⟨RX4, "linksAt", "(I)I"⟩
abbrev cX4_upLinks : ByteArray := prog_6_method_11_code
def yX4_upLinks : MethodName := ⟨RX4, "upLinks", "()I"⟩
abbrev cX4_costOf : ByteArray := prog_6_method_12_code
def yX4_costOf : MethodName := ⟨RX4, "costOf", "(I)I"⟩
abbrev cX4_nodesOf : ByteArray := prog_6_method_13_code
def yX4_nodesOf : MethodName := ⟨RX4, "nodesOf", "(I)I"⟩
abbrev cX4_hangingBy : ByteArray := prog_6_method_14_code
def yX4_hangingBy : MethodName := ⟨RX4, "hangingBy", "(I)I"⟩
abbrev cX4_membersOff : ByteArray := prog_6_method_15_code
def yX4_membersOff : MethodName := ⟨RX4, "membersOff", "(II)I"⟩
abbrev cX4_load : ByteArray := prog_6_method_16_code
def yX4_load : MethodName := ⟨RX4, "load", "(I)I"⟩
abbrev cX4_busiest : ByteArray := prog_6_method_17_code
def yX4_busiest : MethodName := ⟨RX4, "busiest", "()I"⟩
abbrev cX4_needed : ByteArray := prog_6_method_18_code
def yX4_needed : MethodName := ⟨RX4, "needed", "()I"⟩
abbrev cX4_markOf : ByteArray := prog_6_method_19_code
def yX4_markOf : MethodName := ⟨RX4, "markOf", "(I)I"⟩
abbrev cX4_turnMark : ByteArray := prog_6_method_20_code
def yX4_turnMark : MethodName := ⟨RX4, "turnMark", "(I)V"⟩
abbrev cX4_prune : ByteArray := prog_6_method_21_code
def yX4_prune : MethodName := ⟨RX4, "prune", "()V"⟩
def RX5 : String := "TalkTrees$Text"
def TX5 : u_T := fun k => match k with
  | 0 => ("TalkTrees$Text", "letters", "[I", true)
  | 1 => ("TalkTrees$Text", "length", "I", false)
  | 2 => ("TalkTrees$Text", "start", "I", false)
  | 3 => ("TalkTrees$Text", "end", "I", false)
  | 4 => ("TalkTrees$Text", "kind", "I", false)
  | 5 => ("TalkTrees$Text", "figure", "I", false)
  | _ => ("TalkTrees$Text", "sourceTold", "Z", false)
def tyX5 : Nat → FieldType := fun k => match k with
  | 0 => .array .int
  | 1 => .int
  | 2 => .int
  | 3 => .int
  | 4 => .int
  | 5 => .int
  | _ => .boolean
abbrev wsX50 : List Cond := u_ws RX5 TX5 7
theorem nmX5 : ∀ a, a < 7 → ∀ b, b < 7 → a ≠ b → (TX5 a).2.1 ≠ (TX5 b).2.1 := by decide +kernel
theorem tyX5_ok : ∀ k, k < 7 → parseFieldDescriptor (TX5 k).2.2.1 = some (tyX5 k) := by decide +kernel
abbrev cX5_init : ByteArray := prog_7_method_1_code
def yX5_init : MethodName := ⟨RX5, "<init>", "()V"⟩
abbrev cX5_append : ByteArray := prog_7_method_2_code
def yX5_append : MethodName := ⟨RX5, "append", "(I)Z"⟩
abbrev cX5_empty : ByteArray := prog_7_method_3_code
def yX5_empty : MethodName := ⟨RX5, "empty", "()I"⟩
abbrev cX5_read : ByteArray := prog_7_method_4_code
def yX5_read : MethodName := ⟨RX5, "read", "(LTalkTrees$Talk;)I"⟩
abbrev cX5_readItem : ByteArray := prog_7_method_5_code
def yX5_readItem : MethodName := ⟨RX5, "readItem", "(LTalkTrees$Talk;I)Z"⟩
abbrev cX5_readNodes : ByteArray := prog_7_method_6_code
def yX5_readNodes : MethodName := ⟨RX5, "readNodes", "(LTalkTrees$Talk;)Z"⟩
abbrev cX5_readSource : ByteArray := prog_7_method_7_code
def yX5_readSource : MethodName := ⟨RX5, "readSource", "(LTalkTrees$Talk;)Z"⟩
abbrev cX5_readLimit : ByteArray := prog_7_method_8_code
def yX5_readLimit : MethodName := ⟨RX5, "readLimit", "(LTalkTrees$Talk;)Z"⟩
abbrev cX5_readLink : ByteArray := prog_7_method_9_code
def yX5_readLink : MethodName := ⟨RX5, "readLink", "(LTalkTrees$Talk;)Z"⟩
abbrev cX5_takeSemicolon : ByteArray := prog_7_method_10_code
def yX5_takeSemicolon : MethodName := ⟨RX5, "takeSemicolon", "()Z"⟩
abbrev cX5_takeFigure : ByteArray := prog_7_method_11_code
def yX5_takeFigure : MethodName := ⟨RX5, "takeFigure", "(II)Z"⟩
abbrev cX5_takeToken : ByteArray := prog_7_method_12_code
def yX5_takeToken : MethodName := ⟨RX5, "takeToken", "()V"⟩
abbrev cX5_isFigure : ByteArray := prog_7_method_13_code
def yX5_isFigure : MethodName := ⟨RX5, "isFigure", "(I)Z"⟩
abbrev cX5_isSmallLetter : ByteArray := prog_7_method_14_code
def yX5_isSmallLetter : MethodName := ⟨RX5, "isSmallLetter", "(I)Z"⟩
abbrev cX5_isWord : ByteArray := prog_7_method_15_code
def yX5_isWord : MethodName := ⟨RX5, "isWord", "(Ljava/lang/String;)Z"⟩
def RX6 : String := "TalkTrees$Ways"
def TX6 : u_T := fun k => match k with
  | 0 => ("TalkTrees$Ways", "weights", "[I", true)
  | _ => ("TalkTrees$Ways", "usable", "I", false)
def tyX6 : Nat → FieldType := fun k => match k with
  | 0 => .array .int
  | _ => .int
abbrev wsX60 : List Cond := u_ws RX6 TX6 2
theorem nmX6 : ∀ a, a < 2 → ∀ b, b < 2 → a ≠ b → (TX6 a).2.1 ≠ (TX6 b).2.1 := by decide +kernel
theorem tyX6_ok : ∀ k, k < 2 → parseFieldDescriptor (TX6 k).2.2.1 = some (tyX6 k) := by decide +kernel
abbrev cX6_init : ByteArray := prog_8_method_1_code
def yX6_init : MethodName := ⟨RX6, "<init>", "()V"⟩
abbrev cX6_find : ByteArray := prog_8_method_2_code
def yX6_find : MethodName := ⟨RX6, "find", "(LTalkTrees$Talk;I)V"⟩
abbrev cX6_findBy : ByteArray := prog_8_method_3_code
def yX6_findBy : MethodName := ⟨RX6, "findBy", "(LTalkTrees$Talk;II)V"⟩
abbrev cX6_shorten : ByteArray := prog_8_method_4_code
def yX6_shorten : MethodName := ⟨RX6, "shorten", "(III)V"⟩
abbrev cX6_weightOf : ByteArray := prog_8_method_5_code
def yX6_weightOf : MethodName := ⟨RX6, "weightOf", "(LTalkTrees$Talk;I)I"⟩
abbrev cX6_reach : ByteArray := prog_8_method_6_code
def yX6_reach : MethodName := ⟨RX6, "reach", "(I)Z"⟩
abbrev cX6_costFrom : ByteArray := prog_8_method_7_code
def yX6_costFrom : MethodName := ⟨RX6, "costFrom", "(I)I"⟩
abbrev cX6_stepsFrom : ByteArray := prog_8_method_8_code
def yX6_stepsFrom : MethodName := ⟨RX6, "stepsFrom", "(I)I"⟩
abbrev cX6_firstStep : ByteArray := prog_8_method_9_code
def yX6_firstStep : MethodName := ⟨RX6, "firstStep", "(LTalkTrees$Talk;I)I"⟩
abbrev cX6_nextNode : ByteArray := prog_8_method_10_code
def yX6_nextNode : MethodName := ⟨RX6, "nextNode", "(LTalkTrees$Talk;II)I"⟩
abbrev cX6_stepAt : ByteArray := prog_8_method_11_code
def yX6_stepAt : MethodName := ⟨RX6, "stepAt", "(LTalkTrees$Talk;II)I"⟩
abbrev cX6_linksFrom : ByteArray := prog_8_method_12_code
def yX6_linksFrom : MethodName := ⟨RX6, "linksFrom", "(LTalkTrees$Talk;I)I"⟩
def RX7 : String := "TalkTrees"
def TX7 : u_T := fun k => match k with
  | 0 => ("TalkTrees", "text", "LTalkTrees$Text;", true)
  | 1 => ("TalkTrees", "now", "LTalkTrees$Talk;", true)
  | 2 => ("TalkTrees", "told", "LTalkTrees$Talk;", true)
  | 3 => ("TalkTrees", "past", "LTalkTrees$Past;", true)
  | 4 => ("TalkTrees", "builder", "LTalkTrees$Builder;", true)
  | 5 => ("TalkTrees", "ways", "LTalkTrees$Ways;", true)
  | 6 => ("TalkTrees", "sights", "LTalkTrees$Sights;", true)
  | 7 => ("TalkTrees", "images", "[LTalkTrees$Talk;", true)
  | _ => ("TalkTrees", "kept", "[Z", true)
def tyX7 : Nat → FieldType := fun k => match k with
  | 0 => .object "TalkTrees$Text"
  | 1 => .object "TalkTrees$Talk"
  | 2 => .object "TalkTrees$Talk"
  | 3 => .object "TalkTrees$Past"
  | 4 => .object "TalkTrees$Builder"
  | 5 => .object "TalkTrees$Ways"
  | 6 => .object "TalkTrees$Sights"
  | 7 => .array (.object "TalkTrees$Talk")
  | _ => .array .boolean
abbrev wsX70 : List Cond := u_ws RX7 TX7 9
theorem nmX7 : ∀ a, a < 9 → ∀ b, b < 9 → a ≠ b → (TX7 a).2.1 ≠ (TX7 b).2.1 := by decide +kernel
theorem tyX7_ok : ∀ k, k < 9 → parseFieldDescriptor (TX7 k).2.2.1 = some (tyX7 k) := by decide +kernel
abbrev cX7_init : ByteArray := prog_1_method_1_code
def yX7_init : MethodName := ⟨RX7, "<init>", "()V"⟩
abbrev cX7_type : ByteArray := prog_1_method_2_code
def yX7_type : MethodName := ⟨RX7, "type", "(I)I"⟩
abbrev cX7_clear : ByteArray := prog_1_method_3_code
def yX7_clear : MethodName := ⟨RX7, "clear", "()I"⟩
abbrev cX7_tells : ByteArray := prog_1_method_4_code
def yX7_tells : MethodName := ⟨RX7, "tells", "()I"⟩
abbrev cX7_joins : ByteArray := prog_1_method_5_code
def yX7_joins : MethodName := ⟨RX7, "joins", "(I)I"⟩
abbrev cX7_leaves : ByteArray := prog_1_method_6_code
def yX7_leaves : MethodName := ⟨RX7, "leaves", "(I)I"⟩
abbrev cX7_rearranges : ByteArray := prog_1_method_7_code
def yX7_rearranges : MethodName := ⟨RX7, "rearranges", "()I"⟩
abbrev cX7_cuts : ByteArray := prog_1_method_8_code
def yX7_cuts : MethodName := ⟨RX7, "cuts", "(I)I"⟩
abbrev cX7_mends : ByteArray := prog_1_method_9_code
def yX7_mends : MethodName := ⟨RX7, "mends", "(I)I"⟩
abbrev cX7_limits : ByteArray := prog_1_method_10_code
def yX7_limits : MethodName := ⟨RX7, "limits", "(I)I"⟩
abbrev cX7_undo : ByteArray := prog_1_method_11_code
def yX7_undo : MethodName := ⟨RX7, "undo", "()I"⟩
abbrev cX7_link : ByteArray := prog_1_method_12_code
def yX7_link : MethodName := ⟨RX7, "link", "(II)I"⟩
abbrev cX7_node : ByteArray := prog_1_method_13_code
def yX7_node : MethodName := ⟨RX7, "node", "(II)I"⟩
abbrev cX7_way : ByteArray := prog_1_method_14_code
def yX7_way : MethodName := ⟨RX7, "way", "(II)I"⟩
abbrev cX7_tree : ByteArray := prog_1_method_15_code
def yX7_tree : MethodName := ⟨RX7, "tree", "(I)I"⟩
abbrev cX7_sees : ByteArray := prog_1_method_16_code
def yX7_sees : MethodName := ⟨RX7, "sees", "(II)I"⟩
abbrev cX7_forget : ByteArray := prog_1_method_17_code
def yX7_forget : MethodName := ⟨RX7, "forget", "()I"⟩
abbrev cX7_which : ByteArray := prog_1_method_18_code
def yX7_which : MethodName := ⟨RX7, "which", "(I)I"⟩
abbrev cX7_keep : ByteArray := prog_1_method_19_code
def yX7_keep : MethodName := ⟨RX7, "keep", "(I)I"⟩
abbrev cX7_back : ByteArray := prog_1_method_20_code
def yX7_back : MethodName := ⟨RX7, "back", "(I)I"⟩
abbrev cX7_count : ByteArray := prog_1_method_21_code
def yX7_count : MethodName := ⟨RX7, "count", "(I)I"⟩
abbrev cX7_has : ByteArray := prog_1_method_22_code
def yX7_has : MethodName := ⟨RX7, "has", "(II)Z"⟩
abbrev cX7_role : ByteArray := prog_1_method_23_code
def yX7_role : MethodName := ⟨RX7, "role", "(I)I"⟩
abbrev cX7_hasWay : ByteArray := prog_1_method_24_code
def yX7_hasWay : MethodName := ⟨RX7, "hasWay", "(I)Z"⟩
abbrev cX7_far : ByteArray := prog_1_method_25_code
def yX7_far : MethodName := ⟨RX7, "far", "(I)I"⟩
abbrev cX7_fittingNodes : ByteArray := prog_1_method_26_code
def yX7_fittingNodes : MethodName := ⟨RX7, "fittingNodes", "()I"⟩
def RX8 : String := "TalkTreesModel"
def TX8 : u_T := fun k => match k with
  | 0 => ("TalkTreesModel", "thrown", "I", false)
  | 1 => ("TalkTreesModel", "s", "[I", true)
  | 2 => ("TalkTreesModel", "draft", "[I", true)
  | 3 => ("TalkTreesModel", "past", "[I", true)
  | 4 => ("TalkTreesModel", "undos", "I", false)
  | 5 => ("TalkTreesModel", "kept", "[I", true)
  | 6 => ("TalkTreesModel", "isKept", "[Z", true)
  | 7 => ("TalkTreesModel", "facts", "[I", true)
  | 8 => ("TalkTreesModel", "manyFacts", "I", false)
  | 9 => ("TalkTreesModel", "text", "[B", true)
  | 10 => ("TalkTreesModel", "typed", "I", false)
  | 11 => ("TalkTreesModel", "from", "I", false)
  | 12 => ("TalkTreesModel", "to", "I", false)
  | 13 => ("TalkTreesModel", "token", "I", false)
  | 14 => ("TalkTreesModel", "fault", "I", false)
  | 15 => ("TalkTreesModel", "away", "[I", true)
  | _ => ("TalkTreesModel", "leastCost", "I", false)
def tyX8 : Nat → FieldType := fun k => match k with
  | 0 => .int
  | 1 => .array .int
  | 2 => .array .int
  | 3 => .array .int
  | 4 => .int
  | 5 => .array .int
  | 6 => .array .boolean
  | 7 => .array .int
  | 8 => .int
  | 9 => .array .byte
  | 10 => .int
  | 11 => .int
  | 12 => .int
  | 13 => .int
  | 14 => .int
  | 15 => .array .int
  | _ => .int
abbrev wsX80 : List Cond := u_ws RX8 TX8 17
theorem nmX8 : ∀ a, a < 17 → ∀ b, b < 17 → a ≠ b → (TX8 a).2.1 ≠ (TX8 b).2.1 := by decide +kernel
theorem tyX8_ok : ∀ k, k < 17 → parseFieldDescriptor (TX8 k).2.2.1 = some (tyX8 k) := by decide +kernel
abbrev cX8_init : ByteArray := prog_10_method_1_code
def yX8_init : MethodName := ⟨RX8, "<init>", "()V"⟩
abbrev cX8_in : ByteArray := prog_10_method_3_code
def yX8_in : MethodName := ⟨RX8, "in", "(III)Z"⟩
abbrev cX8_has : ByteArray := prog_10_method_4_code
def yX8_has : MethodName := ⟨RX8, "has", "(II)Z"⟩
abbrev cX8_bits : ByteArray := prog_10_method_5_code
def yX8_bits : MethodName := ⟨RX8, "bits", "(I)I"⟩
abbrev cX8_type : ByteArray := prog_10_method_6_code
def yX8_type : MethodName := ⟨RX8, "type", "(I)I"⟩
abbrev cX8_clear : ByteArray := prog_10_method_7_code
def yX8_clear : MethodName := ⟨RX8, "clear", "()I"⟩
abbrev cX8_at : ByteArray := prog_10_method_8_code
def yX8_at : MethodName := ⟨RX8, "at", "(I)I"⟩
abbrev cX8_code : ByteArray := prog_10_method_9_code
def yX8_code : MethodName := ⟨RX8, "code", "()I"⟩
abbrev cX8_wordOf : ByteArray := prog_10_method_10_code
def yX8_wordOf : MethodName := ⟨RX8, "wordOf", "()I"⟩
abbrev cX8_steps : ByteArray := prog_10_method_11_code
def yX8_steps : MethodName := ⟨RX8, "steps", "()V"⟩
abbrev cX8_takes : ByteArray := prog_10_method_12_code
def yX8_takes : MethodName := ⟨RX8, "takes", "(Z)V"⟩
abbrev cX8_figure : ByteArray := prog_10_method_13_code
def yX8_figure : MethodName := ⟨RX8, "figure", "(II)I"⟩
abbrev cX8_areLinked : ByteArray := prog_10_method_14_code
def yX8_areLinked : MethodName := ⟨RX8, "areLinked", "(II)Z"⟩
abbrev cX8_readsLink : ByteArray := prog_10_method_15_code
def yX8_readsLink : MethodName := ⟨RX8, "readsLink", "()V"⟩
abbrev cX8_reads : ByteArray := prog_10_method_16_code
def yX8_reads : MethodName := ⟨RX8, "reads", "()I"⟩
abbrev cX8_tells : ByteArray := prog_10_method_17_code
def yX8_tells : MethodName := ⟨RX8, "tells", "()I"⟩
abbrev cX8_nodesOf : ByteArray := prog_10_method_18_code
def yX8_nodesOf : MethodName := ⟨RX8, "nodesOf", "(I)I"⟩
abbrev cX8_costOf : ByteArray := prog_10_method_19_code
def yX8_costOf : MethodName := ⟨RX8, "costOf", "(I)I"⟩
abbrev cX8_beyond : ByteArray := prog_10_method_20_code
def yX8_beyond : MethodName := ⟨RX8, "beyond", "(II)I"⟩
abbrev cX8_measures : ByteArray := prog_10_method_21_code
def yX8_measures : MethodName := ⟨RX8, "measures", "(I)V"⟩
abbrev cX8_nextLink : ByteArray := prog_10_method_22_code
def yX8_nextLink : MethodName := ⟨RX8, "nextLink", "(I)I"⟩
abbrev cX8_wayOf : ByteArray := prog_10_method_23_code
def yX8_wayOf : MethodName := ⟨RX8, "wayOf", "(I)I"⟩
abbrev cX8_pruned : ByteArray := prog_10_method_24_code
def yX8_pruned : MethodName := ⟨RX8, "pruned", "(I)I"⟩
abbrev cX8_anew : ByteArray := prog_10_method_25_code
def yX8_anew : MethodName := ⟨RX8, "anew", "()I"⟩
abbrev cX8_notes : ByteArray := prog_10_method_26_code
def yX8_notes : MethodName := ⟨RX8, "notes", "()V"⟩
abbrev cX8_markOf : ByteArray := prog_10_method_27_code
def yX8_markOf : MethodName := ⟨RX8, "markOf", "(I)I"⟩
abbrev cX8_bares : ByteArray := prog_10_method_28_code
def yX8_bares : MethodName := ⟨RX8, "bares", "()V"⟩
abbrev cX8_marks : ByteArray := prog_10_method_29_code
def yX8_marks : MethodName := ⟨RX8, "marks", "(I)V"⟩
abbrev cX8_isNode : ByteArray := prog_10_method_30_code
def yX8_isNode : MethodName := ⟨RX8, "isNode", "(I)Z"⟩
abbrev cX8_joins : ByteArray := prog_10_method_31_code
def yX8_joins : MethodName := ⟨RX8, "joins", "(I)I"⟩
abbrev cX8_leaves : ByteArray := prog_10_method_32_code
def yX8_leaves : MethodName := ⟨RX8, "leaves", "(I)I"⟩
abbrev cX8_rearranges : ByteArray := prog_10_method_33_code
def yX8_rearranges : MethodName := ⟨RX8, "rearranges", "()I"⟩
abbrev cX8_isLink : ByteArray := prog_10_method_34_code
def yX8_isLink : MethodName := ⟨RX8, "isLink", "(I)Z"⟩
abbrev cX8_hanging : ByteArray := prog_10_method_35_code
def yX8_hanging : MethodName := ⟨RX8, "hanging", "(I)I"⟩
abbrev cX8_cuts : ByteArray := prog_10_method_36_code
def yX8_cuts : MethodName := ⟨RX8, "cuts", "(I)I"⟩
abbrev cX8_mends : ByteArray := prog_10_method_37_code
def yX8_mends : MethodName := ⟨RX8, "mends", "(I)I"⟩
abbrev cX8_limits : ByteArray := prog_10_method_38_code
def yX8_limits : MethodName := ⟨RX8, "limits", "(I)I"⟩
abbrev cX8_undo : ByteArray := prog_10_method_39_code
def yX8_undo : MethodName := ⟨RX8, "undo", "()I"⟩
abbrev cX8_load : ByteArray := prog_10_method_40_code
def yX8_load : MethodName := ⟨RX8, "load", "(I)I"⟩
abbrev cX8_link : ByteArray := prog_10_method_41_code
def yX8_link : MethodName := ⟨RX8, "link", "(II)I"⟩
abbrev cX8_farOf : ByteArray := prog_10_method_42_code
def yX8_farOf : MethodName := ⟨RX8, "farOf", "(I)I"⟩
abbrev cX8_linksAt : ByteArray := prog_10_method_43_code
def yX8_linksAt : MethodName := ⟨RX8, "linksAt", "(I)I"⟩
abbrev cX8_away : ByteArray := prog_10_method_44_code
def yX8_away : MethodName := ⟨RX8, "away", "(II)I"⟩
abbrev cX8_node : ByteArray := prog_10_method_45_code
def yX8_node : MethodName := ⟨RX8, "node", "(II)I"⟩
abbrev cX8_way : ByteArray := prog_10_method_46_code
def yX8_way : MethodName := ⟨RX8, "way", "(II)I"⟩
abbrev cX8_least : ByteArray := prog_10_method_47_code
def yX8_least : MethodName := ⟨RX8, "least", "()I"⟩
abbrev cX8_busiest : ByteArray := prog_10_method_48_code
def yX8_busiest : MethodName := ⟨RX8, "busiest", "()I"⟩
abbrev cX8_needed : ByteArray := prog_10_method_49_code
def yX8_needed : MethodName := ⟨RX8, "needed", "()I"⟩
abbrev cX8_tree : ByteArray := prog_10_method_50_code
def yX8_tree : MethodName := ⟨RX8, "tree", "(I)I"⟩
abbrev cX8_sees : ByteArray := prog_10_method_51_code
def yX8_sees : MethodName := ⟨RX8, "sees", "(II)I"⟩
abbrev cX8_forget : ByteArray := prog_10_method_52_code
def yX8_forget : MethodName := ⟨RX8, "forget", "()I"⟩
abbrev cX8_which : ByteArray := prog_10_method_53_code
def yX8_which : MethodName := ⟨RX8, "which", "(I)I"⟩
abbrev cX8_keep : ByteArray := prog_10_method_54_code
def yX8_keep : MethodName := ⟨RX8, "keep", "(I)I"⟩
abbrev cX8_back : ByteArray := prog_10_method_55_code
def yX8_back : MethodName := ⟨RX8, "back", "(I)I"⟩
abbrev cX8_count : ByteArray := prog_10_method_56_code
def yX8_count : MethodName := ⟨RX8, "count", "(I)I"⟩
def RJx145de : String := "java/io/Serializable"
def TJx145de : u_T := fun k => match k with
  | _ => ("", "", "", false)
def tyJx145de : Nat → FieldType := fun k => match k with
  | _ => .int
abbrev wsJx145de0 : List Cond := u_ws RJx145de TJx145de 0
theorem nmJx145de : ∀ a, a < 0 → ∀ b, b < 0 → a ≠ b → (TJx145de a).2.1 ≠ (TJx145de b).2.1 := by decide +kernel
theorem tyJx145de_ok : ∀ k, k < 0 → parseFieldDescriptor (TJx145de k).2.2.1 = some (tyJx145de k) := by decide +kernel
def RJx9f9b0 : String := "java/lang/CharSequence"
def TJx9f9b0 : u_T := fun k => match k with
  | _ => ("", "", "", false)
def tyJx9f9b0 : Nat → FieldType := fun k => match k with
  | _ => .int
abbrev wsJx9f9b00 : List Cond := u_ws RJx9f9b0 TJx9f9b0 0
theorem nmJx9f9b0 : ∀ a, a < 0 → ∀ b, b < 0 → a ≠ b → (TJx9f9b0 a).2.1 ≠ (TJx9f9b0 b).2.1 := by decide +kernel
theorem tyJx9f9b0_ok : ∀ k, k < 0 → parseFieldDescriptor (TJx9f9b0 k).2.2.1 = some (tyJx9f9b0 k) := by decide +kernel
def RJxb160c : String := "java/lang/Comparable"
def TJxb160c : u_T := fun k => match k with
  | _ => ("", "", "", false)
def tyJxb160c : Nat → FieldType := fun k => match k with
  | _ => .int
abbrev wsJxb160c0 : List Cond := u_ws RJxb160c TJxb160c 0
theorem nmJxb160c : ∀ a, a < 0 → ∀ b, b < 0 → a ≠ b → (TJxb160c a).2.1 ≠ (TJxb160c b).2.1 := by decide +kernel
theorem tyJxb160c_ok : ∀ k, k < 0 → parseFieldDescriptor (TJxb160c k).2.2.1 = some (tyJxb160c k) := by decide +kernel
def RJ6 : String := "java/lang/Integer"
def TJ6 : u_T := fun k => match k with
  | _ => ("", "", "", false)
def tyJ6 : Nat → FieldType := fun k => match k with
  | _ => .int
abbrev wsJ60 : List Cond := u_ws RJ6 TJ6 0
theorem nmJ6 : ∀ a, a < 0 → ∀ b, b < 0 → a ≠ b → (TJ6 a).2.1 ≠ (TJ6 b).2.1 := by decide +kernel
theorem tyJ6_ok : ∀ k, k < 0 → parseFieldDescriptor (TJ6 k).2.2.1 = some (tyJ6 k) := by decide +kernel
abbrev cJ6_numberOfTrailingZeros_0f7a4 : ByteArray := prog_11_method_48_code
def yJ6_numberOfTrailingZeros_0f7a4 : MethodName := ⟨RJ6, "numberOfTrailingZeros", "(I)I"⟩
abbrev cJ6_bitCount_0f7a4 : ByteArray := prog_11_method_49_code
def yJ6_bitCount_0f7a4 : MethodName := ⟨RJ6, "bitCount", "(I)I"⟩
def RJ9 : String := "java/lang/Math"
def TJ9 : u_T := fun k => match k with
  | _ => ("", "", "", false)
def tyJ9 : Nat → FieldType := fun k => match k with
  | _ => .int
abbrev wsJ90 : List Cond := u_ws RJ9 TJ9 0
theorem nmJ9 : ∀ a, a < 0 → ∀ b, b < 0 → a ≠ b → (TJ9 a).2.1 ≠ (TJ9 b).2.1 := by decide +kernel
theorem tyJ9_ok : ∀ k, k < 0 → parseFieldDescriptor (TJ9 k).2.2.1 = some (tyJ9 k) := by decide +kernel
abbrev cJ9_min_7cf53 : ByteArray := prog_12_method_69_code
def yJ9_min_7cf53 : MethodName := ⟨RJ9, "min", "(II)I"⟩
def RJ0 : String := "java/lang/String"
def TJ0 : u_T := fun k => match k with
  | _ => ("", "", "", false)
def tyJ0 : Nat → FieldType := fun k => match k with
  | _ => .int
abbrev wsJ00 : List Cond := u_ws RJ0 TJ0 0
theorem nmJ0 : ∀ a, a < 0 → ∀ b, b < 0 → a ≠ b → (TJ0 a).2.1 ≠ (TJ0 b).2.1 := by decide +kernel
theorem tyJ0_ok : ∀ k, k < 0 → parseFieldDescriptor (TJ0 k).2.2.1 = some (tyJ0 k) := by decide +kernel
abbrev cJ0_length_8abf5 : ByteArray := prog_13_method_54_code
def yJ0_length_8abf5 : MethodName := ⟨RJ0, "length", "()I"⟩
abbrev cJ0_charAt_5068e : ByteArray := prog_13_method_56_code
def yJ0_charAt_5068e : MethodName := ⟨RJ0, "charAt", "(I)C"⟩
abbrev cJ0_coder_7d493 : ByteArray := prog_13_method_152_code
def yJ0_coder_7d493 : MethodName := ⟨RJ0, "coder", "()B"⟩
abbrev cJ0_isLatin1_aae02 : ByteArray := prog_13_method_154_code
def yJ0_isLatin1_aae02 : MethodName := ⟨RJ0, "isLatin1", "()Z"⟩
abbrev cJ0_checkIndex_df160 : ByteArray := prog_13_method_155_code
def yJ0_checkIndex_df160 : MethodName := ⟨RJ0, "checkIndex", "(II)V"⟩
def RJ1 : String := "java/lang/StringLatin1"
def TJ1 : u_T := fun k => match k with
  | _ => ("", "", "", false)
def tyJ1 : Nat → FieldType := fun k => match k with
  | _ => .int
abbrev wsJ10 : List Cond := u_ws RJ1 TJ1 0
theorem nmJ1 : ∀ a, a < 0 → ∀ b, b < 0 → a ≠ b → (TJ1 a).2.1 ≠ (TJ1 b).2.1 := by decide +kernel
theorem tyJ1_ok : ∀ k, k < 0 → parseFieldDescriptor (TJ1 k).2.2.1 = some (tyJ1 k) := by decide +kernel
abbrev cJ1_charAt_3b067 : ByteArray := prog_14_method_2_code
def yJ1_charAt_3b067 : MethodName := ⟨RJ1, "charAt", "([BI)C"⟩
def RJ2 : String := "java/lang/StringUTF16"
def TJ2 : u_T := fun k => match k with
  | _ => ("", "", "", false)
def tyJ2 : Nat → FieldType := fun k => match k with
  | _ => .int
abbrev wsJ20 : List Cond := u_ws RJ2 TJ2 0
theorem nmJ2 : ∀ a, a < 0 → ∀ b, b < 0 → a ≠ b → (TJ2 a).2.1 ≠ (TJ2 b).2.1 := by decide +kernel
theorem tyJ2_ok : ∀ k, k < 0 → parseFieldDescriptor (TJ2 k).2.2.1 = some (tyJ2 k) := by decide +kernel
abbrev cJ2_getChar_3b067 : ByteArray := prog_15_method_5_code
def yJ2_getChar_3b067 : MethodName := ⟨RJ2, "getChar", "([BI)C"⟩
abbrev cJ2_length_9d52b : ByteArray := prog_15_method_6_code
def yJ2_length_9d52b : MethodName := ⟨RJ2, "length", "([B)I"⟩
abbrev cJ2_charAt_3b067 : ByteArray := prog_15_method_83_code
def yJ2_charAt_3b067 : MethodName := ⟨RJ2, "charAt", "([BI)C"⟩
abbrev cJ2_checkIndex_2214a : ByteArray := prog_15_method_91_code
def yJ2_checkIndex_2214a : MethodName := ⟨RJ2, "checkIndex", "(I[B)V"⟩
def RJ10 : String := "java/lang/System"
def TJ10 : u_T := fun k => match k with
  | _ => ("", "", "", false)
def tyJ10 : Nat → FieldType := fun k => match k with
  | _ => .int
abbrev wsJ100 : List Cond := u_ws RJ10 TJ10 0
theorem nmJ10 : ∀ a, a < 0 → ∀ b, b < 0 → a ≠ b → (TJ10 a).2.1 ≠ (TJ10 b).2.1 := by decide +kernel
theorem tyJ10_ok : ∀ k, k < 0 → parseFieldDescriptor (TJ10 k).2.2.1 = some (tyJ10 k) := by decide +kernel
def RJxfd54e : String := "java/lang/constant/Constable"
def TJxfd54e : u_T := fun k => match k with
  | _ => ("", "", "", false)
def tyJxfd54e : Nat → FieldType := fun k => match k with
  | _ => .int
abbrev wsJxfd54e0 : List Cond := u_ws RJxfd54e TJxfd54e 0
theorem nmJxfd54e : ∀ a, a < 0 → ∀ b, b < 0 → a ≠ b → (TJxfd54e a).2.1 ≠ (TJxfd54e b).2.1 := by decide +kernel
theorem tyJxfd54e_ok : ∀ k, k < 0 → parseFieldDescriptor (TJxfd54e k).2.2.1 = some (tyJxfd54e k) := by decide +kernel
def RJx3cf43 : String := "java/lang/constant/ConstantDesc"
def TJx3cf43 : u_T := fun k => match k with
  | _ => ("", "", "", false)
def tyJx3cf43 : Nat → FieldType := fun k => match k with
  | _ => .int
abbrev wsJx3cf430 : List Cond := u_ws RJx3cf43 TJx3cf43 0
theorem nmJx3cf43 : ∀ a, a < 0 → ∀ b, b < 0 → a ≠ b → (TJx3cf43 a).2.1 ≠ (TJx3cf43 b).2.1 := by decide +kernel
theorem tyJx3cf43_ok : ∀ k, k < 0 → parseFieldDescriptor (TJx3cf43 k).2.2.1 = some (tyJx3cf43 k) := by decide +kernel
def RJ7 : String := "java/util/Arrays"
def TJ7 : u_T := fun k => match k with
  | _ => ("", "", "", false)
def tyJ7 : Nat → FieldType := fun k => match k with
  | _ => .int
abbrev wsJ70 : List Cond := u_ws RJ7 TJ7 0
theorem nmJ7 : ∀ a, a < 0 → ∀ b, b < 0 → a ≠ b → (TJ7 a).2.1 ≠ (TJ7 b).2.1 := by decide +kernel
theorem tyJ7_ok : ∀ k, k < 0 → parseFieldDescriptor (TJ7 k).2.2.1 = some (tyJ7 k) := by decide +kernel
abbrev cJ7_fill_53178 : ByteArray := prog_17_method_103_code
def yJ7_fill_53178 : MethodName := ⟨RJ7, "fill", "([II)V"⟩
def RJ3 : String := "jdk/internal/util/Preconditions"
def TJ3 : u_T := fun k => match k with
  | _ => ("", "", "", false)
def tyJ3 : Nat → FieldType := fun k => match k with
  | _ => .int
abbrev wsJ30 : List Cond := u_ws RJ3 TJ3 0
theorem nmJ3 : ∀ a, a < 0 → ∀ b, b < 0 → a ≠ b → (TJ3 a).2.1 ≠ (TJ3 b).2.1 := by decide +kernel
theorem tyJ3_ok : ∀ k, k < 0 → parseFieldDescriptor (TJ3 k).2.2.1 = some (tyJ3 k) := by decide +kernel
abbrev cJ3_checkIndex_8e157 : ByteArray := prog_18_method_11_code
def yJ3_checkIndex_8e157 : MethodName := ⟨RJ3, "checkIndex", "(IILjava/util/function/BiFunction;)I"⟩
def RL : String := "TalkTreesLaw"
abbrev cL_law : ByteArray := code
def yL_law : MethodName := ⟨RL, "law", "([I)Z"⟩
abbrev vwCl : List vw_C := [(RX0, TX0, 1), (RX2, TX2, 3), (RX3, TX3, 3), (RX4, TX4, 12), (RX5, TX5, 7), (RX6, TX6, 2), (RX7, TX7, 9), (RX8, TX8, 17)]
end
section
theorem dX0_init_0 : decode cX0_init 0 = .ok (.aload_n 0, 1) := by decide +kernel
theorem dX0_init_1 : decode cX0_init 1 = .ok (.invokespecial 3, 3) := by decide +kernel
theorem dX0_init_4 : decode cX0_init 4 = .ok (.aload_n 0, 1) := by decide +kernel
theorem dX0_init_5 : decode cX0_init 5 = .ok (.new 9, 3) := by decide +kernel
theorem dX0_init_8 : decode cX0_init 8 = .ok (.dup, 1) := by decide +kernel
theorem dX0_init_9 : decode cX0_init 9 = .ok (.invokespecial 11, 3) := by decide +kernel
theorem dX0_init_12 : decode cX0_init 12 = .ok (.putfield 12, 3) := by decide +kernel
theorem dX0_init_15 : decode cX0_init 15 = .ok (.return_, 1) := by decide +kernel
theorem dX0_join_0 : decode cX0_join 0 = .ok (.aload_n 0, 1) := by decide +kernel
theorem dX0_join_1 : decode cX0_join 1 = .ok (.getfield 12, 3) := by decide +kernel
theorem dX0_join_4 : decode cX0_join 4 = .ok (.aload_n 1, 1) := by decide +kernel
theorem dX0_join_5 : decode cX0_join 5 = .ok (.aload_n 1, 1) := by decide +kernel
theorem dX0_join_6 : decode cX0_join 6 = .ok (.getfield 18, 3) := by decide +kernel
theorem dX0_join_9 : decode cX0_join 9 = .ok (.invokevirtual 24, 3) := by decide +kernel
theorem dX0_join_12 : decode cX0_join 12 = .ok (.aload_n 1, 1) := by decide +kernel
theorem dX0_join_13 : decode cX0_join 13 = .ok (.dup, 1) := by decide +kernel
theorem dX0_join_14 : decode cX0_join 14 = .ok (.getfield 28, 3) := by decide +kernel
theorem dX0_join_17 : decode cX0_join 17 = .ok (.iconst 1, 1) := by decide +kernel
theorem dX0_join_18 : decode cX0_join 18 = .ok (.iload_n 2, 1) := by decide +kernel
theorem dX0_join_19 : decode cX0_join 19 = .ok (.ishl, 1) := by decide +kernel
theorem dX0_join_20 : decode cX0_join 20 = .ok (.ior, 1) := by decide +kernel
theorem dX0_join_21 : decode cX0_join 21 = .ok (.putfield 28, 3) := by decide +kernel
theorem dX0_join_24 : decode cX0_join 24 = .ok (.aload_n 1, 1) := by decide +kernel
theorem dX0_join_25 : decode cX0_join 25 = .ok (.dup, 1) := by decide +kernel
theorem dX0_join_26 : decode cX0_join 26 = .ok (.getfield 18, 3) := by decide +kernel
theorem dX0_join_29 : decode cX0_join 29 = .ok (.aload_n 0, 1) := by decide +kernel
theorem dX0_join_30 : decode cX0_join 30 = .ok (.getfield 12, 3) := by decide +kernel
theorem dX0_join_33 : decode cX0_join 33 = .ok (.aload_n 1, 1) := by decide +kernel
theorem dX0_join_34 : decode cX0_join 34 = .ok (.iload_n 2, 1) := by decide +kernel
theorem dX0_join_35 : decode cX0_join 35 = .ok (.invokevirtual 31, 3) := by decide +kernel
theorem dX0_join_38 : decode cX0_join 38 = .ok (.ior, 1) := by decide +kernel
theorem dX0_join_39 : decode cX0_join 39 = .ok (.putfield 18, 3) := by decide +kernel
theorem dX0_join_42 : decode cX0_join 42 = .ok (.return_, 1) := by decide +kernel
theorem dX0_leave_0 : decode cX0_leave 0 = .ok (.aload_n 1, 1) := by decide +kernel
theorem dX0_leave_1 : decode cX0_leave 1 = .ok (.dup, 1) := by decide +kernel
theorem dX0_leave_2 : decode cX0_leave 2 = .ok (.getfield 28, 3) := by decide +kernel
theorem dX0_leave_5 : decode cX0_leave 5 = .ok (.iconst 1, 1) := by decide +kernel
theorem dX0_leave_6 : decode cX0_leave 6 = .ok (.iload_n 2, 1) := by decide +kernel
theorem dX0_leave_7 : decode cX0_leave 7 = .ok (.ishl, 1) := by decide +kernel
theorem dX0_leave_8 : decode cX0_leave 8 = .ok (.iconst (-1), 1) := by decide +kernel
theorem dX0_leave_9 : decode cX0_leave 9 = .ok (.ixor, 1) := by decide +kernel
theorem dX0_leave_10 : decode cX0_leave 10 = .ok (.iand, 1) := by decide +kernel
theorem dX0_leave_11 : decode cX0_leave 11 = .ok (.putfield 28, 3) := by decide +kernel
theorem dX0_leave_14 : decode cX0_leave 14 = .ok (.aload_n 1, 1) := by decide +kernel
theorem dX0_leave_15 : decode cX0_leave 15 = .ok (.invokevirtual 35, 3) := by decide +kernel
theorem dX0_leave_18 : decode cX0_leave 18 = .ok (.return_, 1) := by decide +kernel
theorem dX0_mark_0 : decode cX0_mark 0 = .ok (.aload_n 1, 1) := by decide +kernel
theorem dX0_mark_1 : decode cX0_mark 1 = .ok (.iload_n 2, 1) := by decide +kernel
theorem dX0_mark_2 : decode cX0_mark 2 = .ok (.invokevirtual 38, 3) := by decide +kernel
theorem dX0_mark_5 : decode cX0_mark 5 = .ok (.aload_n 1, 1) := by decide +kernel
theorem dX0_mark_6 : decode cX0_mark 6 = .ok (.getfield 42, 3) := by decide +kernel
theorem dX0_mark_9 : decode cX0_mark 9 = .ok (.ifCond .eq 19, 3) := by decide +kernel
theorem dX0_mark_12 : decode cX0_mark 12 = .ok (.aload_n 1, 1) := by decide +kernel
theorem dX0_mark_13 : decode cX0_mark 13 = .ok (.getfield 45, 3) := by decide +kernel
theorem dX0_mark_16 : decode cX0_mark 16 = .ok (.aload_n 1, 1) := by decide +kernel
theorem dX0_mark_17 : decode cX0_mark 17 = .ok (.getfield 42, 3) := by decide +kernel
theorem dX0_mark_20 : decode cX0_mark 20 = .ok (.if_icmp .lt 8, 3) := by decide +kernel
theorem dX0_mark_23 : decode cX0_mark 23 = .ok (.aload_n 0, 1) := by decide +kernel
theorem dX0_mark_24 : decode cX0_mark 24 = .ok (.aload_n 1, 1) := by decide +kernel
theorem dX0_mark_25 : decode cX0_mark 25 = .ok (.invokevirtual 48, 3) := by decide +kernel
theorem dX0_mark_28 : decode cX0_mark 28 = .ok (.return_, 1) := by decide +kernel
theorem dX0_rearrange_0 : decode cX0_rearrange 0 = .ok (.aload_n 0, 1) := by decide +kernel
theorem dX0_rearrange_1 : decode cX0_rearrange 1 = .ok (.aload_n 1, 1) := by decide +kernel
theorem dX0_rearrange_2 : decode cX0_rearrange 2 = .ok (.invokevirtual 52, 3) := by decide +kernel
theorem dX0_rearrange_5 : decode cX0_rearrange 5 = .ok (.istore_n 2, 1) := by decide +kernel
theorem dX0_rearrange_6 : decode cX0_rearrange 6 = .ok (.aload_n 1, 1) := by decide +kernel
theorem dX0_rearrange_7 : decode cX0_rearrange 7 = .ok (.iload_n 2, 1) := by decide +kernel
theorem dX0_rearrange_8 : decode cX0_rearrange 8 = .ok (.invokevirtual 56, 3) := by decide +kernel
theorem dX0_rearrange_11 : decode cX0_rearrange 11 = .ok (.aload_n 1, 1) := by decide +kernel
theorem dX0_rearrange_12 : decode cX0_rearrange 12 = .ok (.aload_n 1, 1) := by decide +kernel
theorem dX0_rearrange_13 : decode cX0_rearrange 13 = .ok (.getfield 18, 3) := by decide +kernel
theorem dX0_rearrange_16 : decode cX0_rearrange 16 = .ok (.invokevirtual 56, 3) := by decide +kernel
theorem dX0_rearrange_19 : decode cX0_rearrange 19 = .ok (.if_icmp .ge 8, 3) := by decide +kernel
theorem dX0_rearrange_22 : decode cX0_rearrange 22 = .ok (.aload_n 1, 1) := by decide +kernel
theorem dX0_rearrange_23 : decode cX0_rearrange 23 = .ok (.iload_n 2, 1) := by decide +kernel
theorem dX0_rearrange_24 : decode cX0_rearrange 24 = .ok (.putfield 18, 3) := by decide +kernel
theorem dX0_rearrange_27 : decode cX0_rearrange 27 = .ok (.aload_n 1, 1) := by decide +kernel
theorem dX0_rearrange_28 : decode cX0_rearrange 28 = .ok (.iconst 0, 1) := by decide +kernel
theorem dX0_rearrange_29 : decode cX0_rearrange 29 = .ok (.putfield 45, 3) := by decide +kernel
theorem dX0_rearrange_32 : decode cX0_rearrange 32 = .ok (.return_, 1) := by decide +kernel
theorem dX0_anew_0 : decode cX0_anew 0 = .ok (.iconst 0, 1) := by decide +kernel
theorem dX0_anew_1 : decode cX0_anew 1 = .ok (.istore_n 2, 1) := by decide +kernel
theorem dX0_anew_2 : decode cX0_anew 2 = .ok (.iconst 0, 1) := by decide +kernel
theorem dX0_anew_3 : decode cX0_anew 3 = .ok (.istore_n 3, 1) := by decide +kernel
theorem dX0_anew_4 : decode cX0_anew 4 = .ok (.iload_n 3, 1) := by decide +kernel
theorem dX0_anew_5 : decode cX0_anew 5 = .ok (.aload_n 1, 1) := by decide +kernel
theorem dX0_anew_6 : decode cX0_anew 6 = .ok (.getfield 60, 3) := by decide +kernel
theorem dX0_anew_9 : decode cX0_anew 9 = .ok (.if_icmp .ge 58, 3) := by decide +kernel
theorem dX0_anew_12 : decode cX0_anew 12 = .ok (.aload_n 0, 1) := by decide +kernel
theorem dX0_anew_13 : decode cX0_anew 13 = .ok (.getfield 12, 3) := by decide +kernel
theorem dX0_anew_16 : decode cX0_anew 16 = .ok (.aload_n 1, 1) := by decide +kernel
theorem dX0_anew_17 : decode cX0_anew 17 = .ok (.iload_n 2, 1) := by decide +kernel
theorem dX0_anew_18 : decode cX0_anew 18 = .ok (.invokevirtual 24, 3) := by decide +kernel
theorem dX0_anew_21 : decode cX0_anew 21 = .ok (.aload_n 0, 1) := by decide +kernel
theorem dX0_anew_22 : decode cX0_anew 22 = .ok (.aload_n 1, 1) := by decide +kernel
theorem dX0_anew_23 : decode cX0_anew 23 = .ok (.aload_n 1, 1) := by decide +kernel
theorem dX0_anew_24 : decode cX0_anew 24 = .ok (.getfield 28, 3) := by decide +kernel
theorem dX0_anew_27 : decode cX0_anew 27 = .ok (.aload_n 1, 1) := by decide +kernel
theorem dX0_anew_28 : decode cX0_anew 28 = .ok (.iload_n 2, 1) := by decide +kernel
theorem dX0_anew_29 : decode cX0_anew 29 = .ok (.invokevirtual 63, 3) := by decide +kernel
theorem dX0_anew_32 : decode cX0_anew 32 = .ok (.iconst (-1), 1) := by decide +kernel
theorem dX0_anew_33 : decode cX0_anew 33 = .ok (.ixor, 1) := by decide +kernel
theorem dX0_anew_34 : decode cX0_anew 34 = .ok (.iand, 1) := by decide +kernel
theorem dX0_anew_35 : decode cX0_anew 35 = .ok (.invokevirtual 66, 3) := by decide +kernel
theorem dX0_anew_38 : decode cX0_anew 38 = .ok (.istore 4, 2) := by decide +kernel
theorem dX0_anew_40 : decode cX0_anew 40 = .ok (.iload 4, 2) := by decide +kernel
theorem dX0_anew_42 : decode cX0_anew 42 = .ok (.ifCond .ge 6, 3) := by decide +kernel
theorem dX0_anew_45 : decode cX0_anew 45 = .ok (.goto 22, 3) := by decide +kernel
theorem dX0_anew_48 : decode cX0_anew 48 = .ok (.iload_n 2, 1) := by decide +kernel
theorem dX0_anew_49 : decode cX0_anew 49 = .ok (.aload_n 0, 1) := by decide +kernel
theorem dX0_anew_50 : decode cX0_anew 50 = .ok (.getfield 12, 3) := by decide +kernel
theorem dX0_anew_53 : decode cX0_anew 53 = .ok (.aload_n 1, 1) := by decide +kernel
theorem dX0_anew_54 : decode cX0_anew 54 = .ok (.iload 4, 2) := by decide +kernel
theorem dX0_anew_56 : decode cX0_anew 56 = .ok (.invokevirtual 31, 3) := by decide +kernel
theorem dX0_anew_59 : decode cX0_anew 59 = .ok (.ior, 1) := by decide +kernel
theorem dX0_anew_60 : decode cX0_anew 60 = .ok (.istore_n 2, 1) := by decide +kernel
theorem dX0_anew_61 : decode cX0_anew 61 = .ok (.iinc 3 1, 3) := by decide +kernel
theorem dX0_anew_64 : decode cX0_anew 64 = .ok (.goto (-60), 3) := by decide +kernel
theorem dX0_anew_67 : decode cX0_anew 67 = .ok (.iload_n 2, 1) := by decide +kernel
theorem dX0_anew_68 : decode cX0_anew 68 = .ok (.ireturn, 1) := by decide +kernel
theorem dX0_nearest_0 : decode cX0_nearest 0 = .ok (.bipush (-9), 2) := by decide +kernel
theorem dX0_nearest_2 : decode cX0_nearest 2 = .ok (.istore_n 3, 1) := by decide +kernel
theorem dX0_nearest_3 : decode cX0_nearest 3 = .ok (.iconst 0, 1) := by decide +kernel
theorem dX0_nearest_4 : decode cX0_nearest 4 = .ok (.istore 4, 2) := by decide +kernel
theorem dX0_nearest_6 : decode cX0_nearest 6 = .ok (.iload 4, 2) := by decide +kernel
theorem dX0_nearest_8 : decode cX0_nearest 8 = .ok (.aload_n 1, 1) := by decide +kernel
theorem dX0_nearest_9 : decode cX0_nearest 9 = .ok (.getfield 60, 3) := by decide +kernel
theorem dX0_nearest_12 : decode cX0_nearest 12 = .ok (.if_icmp .ge 57, 3) := by decide +kernel
theorem dX0_nearest_15 : decode cX0_nearest 15 = .ok (.iload_n 2, 1) := by decide +kernel
theorem dX0_nearest_16 : decode cX0_nearest 16 = .ok (.iload 4, 2) := by decide +kernel
theorem dX0_nearest_18 : decode cX0_nearest 18 = .ok (.invokestatic 69, 3) := by decide +kernel
theorem dX0_nearest_21 : decode cX0_nearest 21 = .ok (.ifCond .eq 42, 3) := by decide +kernel
theorem dX0_nearest_24 : decode cX0_nearest 24 = .ok (.aload_n 0, 1) := by decide +kernel
theorem dX0_nearest_25 : decode cX0_nearest 25 = .ok (.getfield 12, 3) := by decide +kernel
theorem dX0_nearest_28 : decode cX0_nearest 28 = .ok (.iload 4, 2) := by decide +kernel
theorem dX0_nearest_30 : decode cX0_nearest 30 = .ok (.invokevirtual 73, 3) := by decide +kernel
theorem dX0_nearest_33 : decode cX0_nearest 33 = .ok (.ifCond .eq 30, 3) := by decide +kernel
theorem dX0_nearest_36 : decode cX0_nearest 36 = .ok (.iload_n 3, 1) := by decide +kernel
theorem dX0_nearest_37 : decode cX0_nearest 37 = .ok (.ifCond .lt 23, 3) := by decide +kernel
theorem dX0_nearest_40 : decode cX0_nearest 40 = .ok (.aload_n 0, 1) := by decide +kernel
theorem dX0_nearest_41 : decode cX0_nearest 41 = .ok (.getfield 12, 3) := by decide +kernel
theorem dX0_nearest_44 : decode cX0_nearest 44 = .ok (.iload 4, 2) := by decide +kernel
theorem dX0_nearest_46 : decode cX0_nearest 46 = .ok (.invokevirtual 77, 3) := by decide +kernel
theorem dX0_nearest_49 : decode cX0_nearest 49 = .ok (.aload_n 0, 1) := by decide +kernel
theorem dX0_nearest_50 : decode cX0_nearest 50 = .ok (.getfield 12, 3) := by decide +kernel
theorem dX0_nearest_53 : decode cX0_nearest 53 = .ok (.iload_n 3, 1) := by decide +kernel
theorem dX0_nearest_54 : decode cX0_nearest 54 = .ok (.invokevirtual 77, 3) := by decide +kernel
theorem dX0_nearest_57 : decode cX0_nearest 57 = .ok (.if_icmp .ge 6, 3) := by decide +kernel
theorem dX0_nearest_60 : decode cX0_nearest 60 = .ok (.iload 4, 2) := by decide +kernel
theorem dX0_nearest_62 : decode cX0_nearest 62 = .ok (.istore_n 3, 1) := by decide +kernel
theorem dX0_nearest_63 : decode cX0_nearest 63 = .ok (.iinc 4 1, 3) := by decide +kernel
theorem dX0_nearest_66 : decode cX0_nearest 66 = .ok (.goto (-60), 3) := by decide +kernel
theorem dX0_nearest_69 : decode cX0_nearest 69 = .ok (.iload_n 3, 1) := by decide +kernel
theorem dX0_nearest_70 : decode cX0_nearest 70 = .ok (.ireturn, 1) := by decide +kernel
theorem dX0_cut_0 : decode cX0_cut 0 = .ok (.aload_n 1, 1) := by decide +kernel
theorem dX0_cut_1 : decode cX0_cut 1 = .ok (.dup, 1) := by decide +kernel
theorem dX0_cut_2 : decode cX0_cut 2 = .ok (.getfield 80, 3) := by decide +kernel
theorem dX0_cut_5 : decode cX0_cut 5 = .ok (.iconst 1, 1) := by decide +kernel
theorem dX0_cut_6 : decode cX0_cut 6 = .ok (.iload_n 2, 1) := by decide +kernel
theorem dX0_cut_7 : decode cX0_cut 7 = .ok (.ishl, 1) := by decide +kernel
theorem dX0_cut_8 : decode cX0_cut 8 = .ok (.ior, 1) := by decide +kernel
theorem dX0_cut_9 : decode cX0_cut 9 = .ok (.putfield 80, 3) := by decide +kernel
theorem dX0_cut_12 : decode cX0_cut 12 = .ok (.aload_n 1, 1) := by decide +kernel
theorem dX0_cut_13 : decode cX0_cut 13 = .ok (.getfield 18, 3) := by decide +kernel
theorem dX0_cut_16 : decode cX0_cut 16 = .ok (.iload_n 2, 1) := by decide +kernel
theorem dX0_cut_17 : decode cX0_cut 17 = .ok (.invokestatic 69, 3) := by decide +kernel
theorem dX0_cut_20 : decode cX0_cut 20 = .ok (.ifCond .ne 5, 3) := by decide +kernel
theorem dX0_cut_23 : decode cX0_cut 23 = .ok (.iconst 0, 1) := by decide +kernel
theorem dX0_cut_24 : decode cX0_cut 24 = .ok (.ireturn, 1) := by decide +kernel
theorem dX0_cut_25 : decode cX0_cut 25 = .ok (.aload_n 1, 1) := by decide +kernel
theorem dX0_cut_26 : decode cX0_cut 26 = .ok (.getfield 28, 3) := by decide +kernel
theorem dX0_cut_29 : decode cX0_cut 29 = .ok (.invokestatic 83, 3) := by decide +kernel
theorem dX0_cut_32 : decode cX0_cut 32 = .ok (.istore_n 3, 1) := by decide +kernel
theorem dX0_cut_33 : decode cX0_cut 33 = .ok (.aload_n 1, 1) := by decide +kernel
theorem dX0_cut_34 : decode cX0_cut 34 = .ok (.aload_n 1, 1) := by decide +kernel
theorem dX0_cut_35 : decode cX0_cut 35 = .ok (.getfield 18, 3) := by decide +kernel
theorem dX0_cut_38 : decode cX0_cut 38 = .ok (.iconst 1, 1) := by decide +kernel
theorem dX0_cut_39 : decode cX0_cut 39 = .ok (.iload_n 2, 1) := by decide +kernel
theorem dX0_cut_40 : decode cX0_cut 40 = .ok (.ishl, 1) := by decide +kernel
theorem dX0_cut_41 : decode cX0_cut 41 = .ok (.iconst (-1), 1) := by decide +kernel
theorem dX0_cut_42 : decode cX0_cut 42 = .ok (.ixor, 1) := by decide +kernel
theorem dX0_cut_43 : decode cX0_cut 43 = .ok (.iand, 1) := by decide +kernel
theorem dX0_cut_44 : decode cX0_cut 44 = .ok (.invokestatic 88, 3) := by decide +kernel
theorem dX0_cut_47 : decode cX0_cut 47 = .ok (.aload_n 0, 1) := by decide +kernel
theorem dX0_cut_48 : decode cX0_cut 48 = .ok (.aload_n 1, 1) := by decide +kernel
theorem dX0_cut_49 : decode cX0_cut 49 = .ok (.invokevirtual 91, 3) := by decide +kernel
theorem dX0_cut_52 : decode cX0_cut 52 = .ok (.aload_n 1, 1) := by decide +kernel
theorem dX0_cut_53 : decode cX0_cut 53 = .ok (.invokevirtual 35, 3) := by decide +kernel
theorem dX0_cut_56 : decode cX0_cut 56 = .ok (.iload_n 3, 1) := by decide +kernel
theorem dX0_cut_57 : decode cX0_cut 57 = .ok (.aload_n 1, 1) := by decide +kernel
theorem dX0_cut_58 : decode cX0_cut 58 = .ok (.getfield 28, 3) := by decide +kernel
theorem dX0_cut_61 : decode cX0_cut 61 = .ok (.invokestatic 83, 3) := by decide +kernel
theorem dX0_cut_64 : decode cX0_cut 64 = .ok (.isub, 1) := by decide +kernel
theorem dX0_cut_65 : decode cX0_cut 65 = .ok (.ireturn, 1) := by decide +kernel
theorem dX0_keepHanging_0 : decode cX0_keepHanging 0 = .ok (.aload_n 0, 1) := by decide +kernel
theorem dX0_keepHanging_1 : decode cX0_keepHanging 1 = .ok (.iload_n 1, 1) := by decide +kernel
theorem dX0_keepHanging_2 : decode cX0_keepHanging 2 = .ok (.invokevirtual 94, 3) := by decide +kernel
theorem dX0_keepHanging_5 : decode cX0_keepHanging 5 = .ok (.istore_n 2, 1) := by decide +kernel
theorem dX0_keepHanging_6 : decode cX0_keepHanging 6 = .ok (.aload_n 0, 1) := by decide +kernel
theorem dX0_keepHanging_7 : decode cX0_keepHanging 7 = .ok (.iconst 0, 1) := by decide +kernel
theorem dX0_keepHanging_8 : decode cX0_keepHanging 8 = .ok (.putfield 18, 3) := by decide +kernel
theorem dX0_keepHanging_11 : decode cX0_keepHanging 11 = .ok (.iconst 0, 1) := by decide +kernel
theorem dX0_keepHanging_12 : decode cX0_keepHanging 12 = .ok (.istore_n 3, 1) := by decide +kernel
theorem dX0_keepHanging_13 : decode cX0_keepHanging 13 = .ok (.iload_n 3, 1) := by decide +kernel
theorem dX0_keepHanging_14 : decode cX0_keepHanging 14 = .ok (.aload_n 0, 1) := by decide +kernel
theorem dX0_keepHanging_15 : decode cX0_keepHanging 15 = .ok (.getfield 97, 3) := by decide +kernel
theorem dX0_keepHanging_18 : decode cX0_keepHanging 18 = .ok (.if_icmp .ge 39, 3) := by decide +kernel
theorem dX0_keepHanging_21 : decode cX0_keepHanging 21 = .ok (.iload_n 1, 1) := by decide +kernel
theorem dX0_keepHanging_22 : decode cX0_keepHanging 22 = .ok (.iload_n 3, 1) := by decide +kernel
theorem dX0_keepHanging_23 : decode cX0_keepHanging 23 = .ok (.invokestatic 69, 3) := by decide +kernel
theorem dX0_keepHanging_26 : decode cX0_keepHanging 26 = .ok (.ifCond .eq 25, 3) := by decide +kernel
theorem dX0_keepHanging_29 : decode cX0_keepHanging 29 = .ok (.aload_n 0, 1) := by decide +kernel
theorem dX0_keepHanging_30 : decode cX0_keepHanging 30 = .ok (.iload_n 3, 1) := by decide +kernel
theorem dX0_keepHanging_31 : decode cX0_keepHanging 31 = .ok (.invokevirtual 100, 3) := by decide +kernel
theorem dX0_keepHanging_34 : decode cX0_keepHanging 34 = .ok (.iload_n 2, 1) := by decide +kernel
theorem dX0_keepHanging_35 : decode cX0_keepHanging 35 = .ok (.iand, 1) := by decide +kernel
theorem dX0_keepHanging_36 : decode cX0_keepHanging 36 = .ok (.ifCond .eq 15, 3) := by decide +kernel
theorem dX0_keepHanging_39 : decode cX0_keepHanging 39 = .ok (.aload_n 0, 1) := by decide +kernel
theorem dX0_keepHanging_40 : decode cX0_keepHanging 40 = .ok (.dup, 1) := by decide +kernel
theorem dX0_keepHanging_41 : decode cX0_keepHanging 41 = .ok (.getfield 18, 3) := by decide +kernel
theorem dX0_keepHanging_44 : decode cX0_keepHanging 44 = .ok (.iconst 1, 1) := by decide +kernel
theorem dX0_keepHanging_45 : decode cX0_keepHanging 45 = .ok (.iload_n 3, 1) := by decide +kernel
theorem dX0_keepHanging_46 : decode cX0_keepHanging 46 = .ok (.ishl, 1) := by decide +kernel
theorem dX0_keepHanging_47 : decode cX0_keepHanging 47 = .ok (.ior, 1) := by decide +kernel
theorem dX0_keepHanging_48 : decode cX0_keepHanging 48 = .ok (.putfield 18, 3) := by decide +kernel
theorem dX0_keepHanging_51 : decode cX0_keepHanging 51 = .ok (.iinc 3 1, 3) := by decide +kernel
theorem dX0_keepHanging_54 : decode cX0_keepHanging 54 = .ok (.goto (-41), 3) := by decide +kernel
theorem dX0_keepHanging_57 : decode cX0_keepHanging 57 = .ok (.return_, 1) := by decide +kernel
theorem dX0_joinAgain_0 : decode cX0_joinAgain 0 = .ok (.iconst 0, 1) := by decide +kernel
theorem dX0_joinAgain_1 : decode cX0_joinAgain 1 = .ok (.istore_n 2, 1) := by decide +kernel
theorem dX0_joinAgain_2 : decode cX0_joinAgain 2 = .ok (.iload_n 2, 1) := by decide +kernel
theorem dX0_joinAgain_3 : decode cX0_joinAgain 3 = .ok (.aload_n 1, 1) := by decide +kernel
theorem dX0_joinAgain_4 : decode cX0_joinAgain 4 = .ok (.getfield 60, 3) := by decide +kernel
theorem dX0_joinAgain_7 : decode cX0_joinAgain 7 = .ok (.if_icmp .ge 72, 3) := by decide +kernel
theorem dX0_joinAgain_10 : decode cX0_joinAgain 10 = .ok (.aload_n 1, 1) := by decide +kernel
theorem dX0_joinAgain_11 : decode cX0_joinAgain 11 = .ok (.iload_n 2, 1) := by decide +kernel
theorem dX0_joinAgain_12 : decode cX0_joinAgain 12 = .ok (.invokevirtual 103, 3) := by decide +kernel
theorem dX0_joinAgain_15 : decode cX0_joinAgain 15 = .ok (.ifCond .eq 58, 3) := by decide +kernel
theorem dX0_joinAgain_18 : decode cX0_joinAgain 18 = .ok (.aload_n 0, 1) := by decide +kernel
theorem dX0_joinAgain_19 : decode cX0_joinAgain 19 = .ok (.getfield 12, 3) := by decide +kernel
theorem dX0_joinAgain_22 : decode cX0_joinAgain 22 = .ok (.aload_n 1, 1) := by decide +kernel
theorem dX0_joinAgain_23 : decode cX0_joinAgain 23 = .ok (.aload_n 1, 1) := by decide +kernel
theorem dX0_joinAgain_24 : decode cX0_joinAgain 24 = .ok (.getfield 18, 3) := by decide +kernel
theorem dX0_joinAgain_27 : decode cX0_joinAgain 27 = .ok (.invokevirtual 24, 3) := by decide +kernel
theorem dX0_joinAgain_30 : decode cX0_joinAgain 30 = .ok (.aload_n 1, 1) := by decide +kernel
theorem dX0_joinAgain_31 : decode cX0_joinAgain 31 = .ok (.dup, 1) := by decide +kernel
theorem dX0_joinAgain_32 : decode cX0_joinAgain 32 = .ok (.getfield 18, 3) := by decide +kernel
theorem dX0_joinAgain_35 : decode cX0_joinAgain 35 = .ok (.aload_n 0, 1) := by decide +kernel
theorem dX0_joinAgain_36 : decode cX0_joinAgain 36 = .ok (.getfield 12, 3) := by decide +kernel
theorem dX0_joinAgain_39 : decode cX0_joinAgain 39 = .ok (.aload_n 1, 1) := by decide +kernel
theorem dX0_joinAgain_40 : decode cX0_joinAgain 40 = .ok (.iload_n 2, 1) := by decide +kernel
theorem dX0_joinAgain_41 : decode cX0_joinAgain 41 = .ok (.invokevirtual 31, 3) := by decide +kernel
theorem dX0_joinAgain_44 : decode cX0_joinAgain 44 = .ok (.ior, 1) := by decide +kernel
theorem dX0_joinAgain_45 : decode cX0_joinAgain 45 = .ok (.putfield 18, 3) := by decide +kernel
theorem dX0_joinAgain_48 : decode cX0_joinAgain 48 = .ok (.aload_n 0, 1) := by decide +kernel
theorem dX0_joinAgain_49 : decode cX0_joinAgain 49 = .ok (.getfield 12, 3) := by decide +kernel
theorem dX0_joinAgain_52 : decode cX0_joinAgain 52 = .ok (.iload_n 2, 1) := by decide +kernel
theorem dX0_joinAgain_53 : decode cX0_joinAgain 53 = .ok (.invokevirtual 73, 3) := by decide +kernel
theorem dX0_joinAgain_56 : decode cX0_joinAgain 56 = .ok (.ifCond .ne 17, 3) := by decide +kernel
theorem dX0_joinAgain_59 : decode cX0_joinAgain 59 = .ok (.aload_n 1, 1) := by decide +kernel
theorem dX0_joinAgain_60 : decode cX0_joinAgain 60 = .ok (.dup, 1) := by decide +kernel
theorem dX0_joinAgain_61 : decode cX0_joinAgain 61 = .ok (.getfield 28, 3) := by decide +kernel
theorem dX0_joinAgain_64 : decode cX0_joinAgain 64 = .ok (.iconst 1, 1) := by decide +kernel
theorem dX0_joinAgain_65 : decode cX0_joinAgain 65 = .ok (.iload_n 2, 1) := by decide +kernel
theorem dX0_joinAgain_66 : decode cX0_joinAgain 66 = .ok (.ishl, 1) := by decide +kernel
theorem dX0_joinAgain_67 : decode cX0_joinAgain 67 = .ok (.iconst (-1), 1) := by decide +kernel
theorem dX0_joinAgain_68 : decode cX0_joinAgain 68 = .ok (.ixor, 1) := by decide +kernel
theorem dX0_joinAgain_69 : decode cX0_joinAgain 69 = .ok (.iand, 1) := by decide +kernel
theorem dX0_joinAgain_70 : decode cX0_joinAgain 70 = .ok (.putfield 28, 3) := by decide +kernel
theorem dX0_joinAgain_73 : decode cX0_joinAgain 73 = .ok (.iinc 2 1, 3) := by decide +kernel
theorem dX0_joinAgain_76 : decode cX0_joinAgain 76 = .ok (.goto (-74), 3) := by decide +kernel
theorem dX0_joinAgain_79 : decode cX0_joinAgain 79 = .ok (.return_, 1) := by decide +kernel
theorem dX1_of_0 : decode cX1_of 0 = .ok (.aload_n 0, 1) := by decide +kernel
theorem dX1_of_1 : decode cX1_of 1 = .ok (.getfield 9, 3) := by decide +kernel
theorem dX1_of_4 : decode cX1_of 4 = .ok (.iconst 1, 1) := by decide +kernel
theorem dX1_of_5 : decode cX1_of 5 = .ok (.aload_n 0, 1) := by decide +kernel
theorem dX1_of_6 : decode cX1_of 6 = .ok (.getfield 15, 3) := by decide +kernel
theorem dX1_of_9 : decode cX1_of 9 = .ok (.ishl, 1) := by decide +kernel
theorem dX1_of_10 : decode cX1_of 10 = .ok (.ior, 1) := by decide +kernel
theorem dX1_of_11 : decode cX1_of 11 = .ok (.istore_n 1, 1) := by decide +kernel
theorem dX1_of_12 : decode cX1_of 12 = .ok (.aload_n 0, 1) := by decide +kernel
theorem dX1_of_13 : decode cX1_of 13 = .ok (.getfield 18, 3) := by decide +kernel
theorem dX1_of_16 : decode cX1_of 16 = .ok (.istore_n 2, 1) := by decide +kernel
theorem dX1_of_17 : decode cX1_of 17 = .ok (.iload_n 1, 1) := by decide +kernel
theorem dX1_of_18 : decode cX1_of 18 = .ok (.istore_n 3, 1) := by decide +kernel
theorem dX1_of_19 : decode cX1_of 19 = .ok (.iload_n 3, 1) := by decide +kernel
theorem dX1_of_20 : decode cX1_of 20 = .ok (.iconst 1, 1) := by decide +kernel
theorem dX1_of_21 : decode cX1_of 21 = .ok (.aload_n 0, 1) := by decide +kernel
theorem dX1_of_22 : decode cX1_of 22 = .ok (.getfield 21, 3) := by decide +kernel
theorem dX1_of_25 : decode cX1_of 25 = .ok (.ishl, 1) := by decide +kernel
theorem dX1_of_26 : decode cX1_of 26 = .ok (.if_icmp .ge 46, 3) := by decide +kernel
theorem dX1_of_29 : decode cX1_of 29 = .ok (.iload_n 3, 1) := by decide +kernel
theorem dX1_of_30 : decode cX1_of 30 = .ok (.iload_n 1, 1) := by decide +kernel
theorem dX1_of_31 : decode cX1_of 31 = .ok (.iand, 1) := by decide +kernel
theorem dX1_of_32 : decode cX1_of 32 = .ok (.iload_n 1, 1) := by decide +kernel
theorem dX1_of_33 : decode cX1_of 33 = .ok (.if_icmp .ne 33, 3) := by decide +kernel
theorem dX1_of_36 : decode cX1_of 36 = .ok (.aload_n 0, 1) := by decide +kernel
theorem dX1_of_37 : decode cX1_of 37 = .ok (.iload_n 3, 1) := by decide +kernel
theorem dX1_of_38 : decode cX1_of 38 = .ok (.invokestatic 24, 3) := by decide +kernel
theorem dX1_of_41 : decode cX1_of 41 = .ok (.istore 4, 2) := by decide +kernel
theorem dX1_of_43 : decode cX1_of 43 = .ok (.aload_n 0, 1) := by decide +kernel
theorem dX1_of_44 : decode cX1_of 44 = .ok (.iload 4, 2) := by decide +kernel
theorem dX1_of_46 : decode cX1_of 46 = .ok (.invokevirtual 30, 3) := by decide +kernel
theorem dX1_of_49 : decode cX1_of 49 = .ok (.iload_n 3, 1) := by decide +kernel
theorem dX1_of_50 : decode cX1_of 50 = .ok (.if_icmp .ne 16, 3) := by decide +kernel
theorem dX1_of_53 : decode cX1_of 53 = .ok (.aload_n 0, 1) := by decide +kernel
theorem dX1_of_54 : decode cX1_of 54 = .ok (.iload 4, 2) := by decide +kernel
theorem dX1_of_56 : decode cX1_of 56 = .ok (.iload_n 2, 1) := by decide +kernel
theorem dX1_of_57 : decode cX1_of 57 = .ok (.invokestatic 34, 3) := by decide +kernel
theorem dX1_of_60 : decode cX1_of 60 = .ok (.ifCond .eq 6, 3) := by decide +kernel
theorem dX1_of_63 : decode cX1_of 63 = .ok (.iload 4, 2) := by decide +kernel
theorem dX1_of_65 : decode cX1_of 65 = .ok (.istore_n 2, 1) := by decide +kernel
theorem dX1_of_66 : decode cX1_of 66 = .ok (.iinc 3 1, 3) := by decide +kernel
theorem dX1_of_69 : decode cX1_of 69 = .ok (.goto (-50), 3) := by decide +kernel
theorem dX1_of_72 : decode cX1_of 72 = .ok (.iload_n 2, 1) := by decide +kernel
theorem dX1_of_73 : decode cX1_of 73 = .ok (.ireturn, 1) := by decide +kernel
theorem dX1_isLess_0 : decode cX1_isLess 0 = .ok (.aload_n 0, 1) := by decide +kernel
theorem dX1_isLess_1 : decode cX1_isLess 1 = .ok (.iload_n 1, 1) := by decide +kernel
theorem dX1_isLess_2 : decode cX1_isLess 2 = .ok (.invokevirtual 38, 3) := by decide +kernel
theorem dX1_isLess_5 : decode cX1_isLess 5 = .ok (.aload_n 0, 1) := by decide +kernel
theorem dX1_isLess_6 : decode cX1_isLess 6 = .ok (.iload_n 2, 1) := by decide +kernel
theorem dX1_isLess_7 : decode cX1_isLess 7 = .ok (.invokevirtual 38, 3) := by decide +kernel
theorem dX1_isLess_10 : decode cX1_isLess 10 = .ok (.isub, 1) := by decide +kernel
theorem dX1_isLess_11 : decode cX1_isLess 11 = .ok (.istore_n 3, 1) := by decide +kernel
theorem dX1_isLess_12 : decode cX1_isLess 12 = .ok (.iload_n 3, 1) := by decide +kernel
theorem dX1_isLess_13 : decode cX1_isLess 13 = .ok (.ifCond .lt 12, 3) := by decide +kernel
theorem dX1_isLess_16 : decode cX1_isLess 16 = .ok (.iload_n 3, 1) := by decide +kernel
theorem dX1_isLess_17 : decode cX1_isLess 17 = .ok (.ifCond .ne 12, 3) := by decide +kernel
theorem dX1_isLess_20 : decode cX1_isLess 20 = .ok (.iload_n 1, 1) := by decide +kernel
theorem dX1_isLess_21 : decode cX1_isLess 21 = .ok (.iload_n 2, 1) := by decide +kernel
theorem dX1_isLess_22 : decode cX1_isLess 22 = .ok (.if_icmp .ge 7, 3) := by decide +kernel
theorem dX1_isLess_25 : decode cX1_isLess 25 = .ok (.iconst 1, 1) := by decide +kernel
theorem dX1_isLess_26 : decode cX1_isLess 26 = .ok (.goto 4, 3) := by decide +kernel
theorem dX1_isLess_29 : decode cX1_isLess 29 = .ok (.iconst 0, 1) := by decide +kernel
theorem dX1_isLess_30 : decode cX1_isLess 30 = .ok (.ireturn, 1) := by decide +kernel
theorem dX1_grow_0 : decode cX1_grow 0 = .ok (.iconst 0, 1) := by decide +kernel
theorem dX1_grow_1 : decode cX1_grow 1 = .ok (.istore_n 2, 1) := by decide +kernel
theorem dX1_grow_2 : decode cX1_grow 2 = .ok (.iconst 1, 1) := by decide +kernel
theorem dX1_grow_3 : decode cX1_grow 3 = .ok (.aload_n 0, 1) := by decide +kernel
theorem dX1_grow_4 : decode cX1_grow 4 = .ok (.getfield 15, 3) := by decide +kernel
theorem dX1_grow_7 : decode cX1_grow 7 = .ok (.ishl, 1) := by decide +kernel
theorem dX1_grow_8 : decode cX1_grow 8 = .ok (.istore_n 3, 1) := by decide +kernel
theorem dX1_grow_9 : decode cX1_grow 9 = .ok (.iconst 1, 1) := by decide +kernel
theorem dX1_grow_10 : decode cX1_grow 10 = .ok (.istore 4, 2) := by decide +kernel
theorem dX1_grow_12 : decode cX1_grow 12 = .ok (.iload 4, 2) := by decide +kernel
theorem dX1_grow_14 : decode cX1_grow 14 = .ok (.aload_n 0, 1) := by decide +kernel
theorem dX1_grow_15 : decode cX1_grow 15 = .ok (.getfield 21, 3) := by decide +kernel
theorem dX1_grow_18 : decode cX1_grow 18 = .ok (.if_icmp .ge 45, 3) := by decide +kernel
theorem dX1_grow_21 : decode cX1_grow 21 = .ok (.aload_n 0, 1) := by decide +kernel
theorem dX1_grow_22 : decode cX1_grow 22 = .ok (.iload_n 3, 1) := by decide +kernel
theorem dX1_grow_23 : decode cX1_grow 23 = .ok (.iload_n 1, 1) := by decide +kernel
theorem dX1_grow_24 : decode cX1_grow 24 = .ok (.iload_n 3, 1) := by decide +kernel
theorem dX1_grow_25 : decode cX1_grow 25 = .ok (.iconst (-1), 1) := by decide +kernel
theorem dX1_grow_26 : decode cX1_grow 26 = .ok (.ixor, 1) := by decide +kernel
theorem dX1_grow_27 : decode cX1_grow 27 = .ok (.iand, 1) := by decide +kernel
theorem dX1_grow_28 : decode cX1_grow 28 = .ok (.invokestatic 41, 3) := by decide +kernel
theorem dX1_grow_31 : decode cX1_grow 31 = .ok (.istore 5, 2) := by decide +kernel
theorem dX1_grow_33 : decode cX1_grow 33 = .ok (.iload 5, 2) := by decide +kernel
theorem dX1_grow_35 : decode cX1_grow 35 = .ok (.ifCond .ge 6, 3) := by decide +kernel
theorem dX1_grow_38 : decode cX1_grow 38 = .ok (.goto 25, 3) := by decide +kernel
theorem dX1_grow_41 : decode cX1_grow 41 = .ok (.iload_n 2, 1) := by decide +kernel
theorem dX1_grow_42 : decode cX1_grow 42 = .ok (.iconst 1, 1) := by decide +kernel
theorem dX1_grow_43 : decode cX1_grow 43 = .ok (.iload 5, 2) := by decide +kernel
theorem dX1_grow_45 : decode cX1_grow 45 = .ok (.ishl, 1) := by decide +kernel
theorem dX1_grow_46 : decode cX1_grow 46 = .ok (.ior, 1) := by decide +kernel
theorem dX1_grow_47 : decode cX1_grow 47 = .ok (.istore_n 2, 1) := by decide +kernel
theorem dX1_grow_48 : decode cX1_grow 48 = .ok (.iload_n 3, 1) := by decide +kernel
theorem dX1_grow_49 : decode cX1_grow 49 = .ok (.aload_n 0, 1) := by decide +kernel
theorem dX1_grow_50 : decode cX1_grow 50 = .ok (.iload 5, 2) := by decide +kernel
theorem dX1_grow_52 : decode cX1_grow 52 = .ok (.invokevirtual 45, 3) := by decide +kernel
theorem dX1_grow_55 : decode cX1_grow 55 = .ok (.ior, 1) := by decide +kernel
theorem dX1_grow_56 : decode cX1_grow 56 = .ok (.istore_n 3, 1) := by decide +kernel
theorem dX1_grow_57 : decode cX1_grow 57 = .ok (.iinc 4 1, 3) := by decide +kernel
theorem dX1_grow_60 : decode cX1_grow 60 = .ok (.goto (-48), 3) := by decide +kernel
theorem dX1_grow_63 : decode cX1_grow 63 = .ok (.iload_n 2, 1) := by decide +kernel
theorem dX1_grow_64 : decode cX1_grow 64 = .ok (.ireturn, 1) := by decide +kernel
theorem dX1_cheapestOn_0 : decode cX1_cheapestOn 0 = .ok (.bipush (-9), 2) := by decide +kernel
theorem dX1_cheapestOn_2 : decode cX1_cheapestOn 2 = .ok (.istore_n 3, 1) := by decide +kernel
theorem dX1_cheapestOn_3 : decode cX1_cheapestOn 3 = .ok (.aload_n 0, 1) := by decide +kernel
theorem dX1_cheapestOn_4 : decode cX1_cheapestOn 4 = .ok (.invokevirtual 48, 3) := by decide +kernel
theorem dX1_cheapestOn_7 : decode cX1_cheapestOn 7 = .ok (.istore 4, 2) := by decide +kernel
theorem dX1_cheapestOn_9 : decode cX1_cheapestOn 9 = .ok (.iconst 0, 1) := by decide +kernel
theorem dX1_cheapestOn_10 : decode cX1_cheapestOn 10 = .ok (.istore 5, 2) := by decide +kernel
theorem dX1_cheapestOn_12 : decode cX1_cheapestOn 12 = .ok (.iload 5, 2) := by decide +kernel
theorem dX1_cheapestOn_14 : decode cX1_cheapestOn 14 = .ok (.aload_n 0, 1) := by decide +kernel
theorem dX1_cheapestOn_15 : decode cX1_cheapestOn 15 = .ok (.getfield 52, 3) := by decide +kernel
theorem dX1_cheapestOn_18 : decode cX1_cheapestOn 18 = .ok (.if_icmp .ge 76, 3) := by decide +kernel
theorem dX1_cheapestOn_21 : decode cX1_cheapestOn 21 = .ok (.aload_n 0, 1) := by decide +kernel
theorem dX1_cheapestOn_22 : decode cX1_cheapestOn 22 = .ok (.iload 5, 2) := by decide +kernel
theorem dX1_cheapestOn_24 : decode cX1_cheapestOn 24 = .ok (.invokevirtual 45, 3) := by decide +kernel
theorem dX1_cheapestOn_27 : decode cX1_cheapestOn 27 = .ok (.istore 6, 2) := by decide +kernel
theorem dX1_cheapestOn_29 : decode cX1_cheapestOn 29 = .ok (.iload 4, 2) := by decide +kernel
theorem dX1_cheapestOn_31 : decode cX1_cheapestOn 31 = .ok (.iload 5, 2) := by decide +kernel
theorem dX1_cheapestOn_33 : decode cX1_cheapestOn 33 = .ok (.invokestatic 55, 3) := by decide +kernel
theorem dX1_cheapestOn_36 : decode cX1_cheapestOn 36 = .ok (.ifCond .eq 21, 3) := by decide +kernel
theorem dX1_cheapestOn_39 : decode cX1_cheapestOn 39 = .ok (.iload 6, 2) := by decide +kernel
theorem dX1_cheapestOn_41 : decode cX1_cheapestOn 41 = .ok (.iload_n 1, 1) := by decide +kernel
theorem dX1_cheapestOn_42 : decode cX1_cheapestOn 42 = .ok (.iand, 1) := by decide +kernel
theorem dX1_cheapestOn_43 : decode cX1_cheapestOn 43 = .ok (.ifCond .eq 14, 3) := by decide +kernel
theorem dX1_cheapestOn_46 : decode cX1_cheapestOn 46 = .ok (.iload 6, 2) := by decide +kernel
theorem dX1_cheapestOn_48 : decode cX1_cheapestOn 48 = .ok (.iload_n 2, 1) := by decide +kernel
theorem dX1_cheapestOn_49 : decode cX1_cheapestOn 49 = .ok (.iand, 1) := by decide +kernel
theorem dX1_cheapestOn_50 : decode cX1_cheapestOn 50 = .ok (.ifCond .eq 7, 3) := by decide +kernel
theorem dX1_cheapestOn_53 : decode cX1_cheapestOn 53 = .ok (.iconst 1, 1) := by decide +kernel
theorem dX1_cheapestOn_54 : decode cX1_cheapestOn 54 = .ok (.goto 4, 3) := by decide +kernel
theorem dX1_cheapestOn_57 : decode cX1_cheapestOn 57 = .ok (.iconst 0, 1) := by decide +kernel
theorem dX1_cheapestOn_58 : decode cX1_cheapestOn 58 = .ok (.istore 7, 2) := by decide +kernel
theorem dX1_cheapestOn_60 : decode cX1_cheapestOn 60 = .ok (.iload 7, 2) := by decide +kernel
theorem dX1_cheapestOn_62 : decode cX1_cheapestOn 62 = .ok (.ifCond .eq 26, 3) := by decide +kernel
theorem dX1_cheapestOn_65 : decode cX1_cheapestOn 65 = .ok (.iload_n 3, 1) := by decide +kernel
theorem dX1_cheapestOn_66 : decode cX1_cheapestOn 66 = .ok (.ifCond .lt 19, 3) := by decide +kernel
theorem dX1_cheapestOn_69 : decode cX1_cheapestOn 69 = .ok (.aload_n 0, 1) := by decide +kernel
theorem dX1_cheapestOn_70 : decode cX1_cheapestOn 70 = .ok (.getfield 59, 3) := by decide +kernel
theorem dX1_cheapestOn_73 : decode cX1_cheapestOn 73 = .ok (.iload 5, 2) := by decide +kernel
theorem dX1_cheapestOn_75 : decode cX1_cheapestOn 75 = .ok (.iaload, 1) := by decide +kernel
theorem dX1_cheapestOn_76 : decode cX1_cheapestOn 76 = .ok (.aload_n 0, 1) := by decide +kernel
theorem dX1_cheapestOn_77 : decode cX1_cheapestOn 77 = .ok (.getfield 59, 3) := by decide +kernel
theorem dX1_cheapestOn_80 : decode cX1_cheapestOn 80 = .ok (.iload_n 3, 1) := by decide +kernel
theorem dX1_cheapestOn_81 : decode cX1_cheapestOn 81 = .ok (.iaload, 1) := by decide +kernel
theorem dX1_cheapestOn_82 : decode cX1_cheapestOn 82 = .ok (.if_icmp .ge 6, 3) := by decide +kernel
theorem dX1_cheapestOn_85 : decode cX1_cheapestOn 85 = .ok (.iload 5, 2) := by decide +kernel
theorem dX1_cheapestOn_87 : decode cX1_cheapestOn 87 = .ok (.istore_n 3, 1) := by decide +kernel
theorem dX1_cheapestOn_88 : decode cX1_cheapestOn 88 = .ok (.iinc 5 1, 3) := by decide +kernel
theorem dX1_cheapestOn_91 : decode cX1_cheapestOn 91 = .ok (.goto (-79), 3) := by decide +kernel
theorem dX1_cheapestOn_94 : decode cX1_cheapestOn 94 = .ok (.iload_n 3, 1) := by decide +kernel
theorem dX1_cheapestOn_95 : decode cX1_cheapestOn 95 = .ok (.ireturn, 1) := by decide +kernel
theorem dX2_init_0 : decode cX2_init 0 = .ok (.aload_n 0, 1) := by decide +kernel
theorem dX2_init_1 : decode cX2_init 1 = .ok (.invokespecial 3, 3) := by decide +kernel
theorem dX2_init_4 : decode cX2_init 4 = .ok (.aload_n 0, 1) := by decide +kernel
theorem dX2_init_5 : decode cX2_init 5 = .ok (.bipush 6, 2) := by decide +kernel
theorem dX2_init_7 : decode cX2_init 7 = .ok (.anewarray 9, 3) := by decide +kernel
theorem dX2_init_10 : decode cX2_init 10 = .ok (.putfield 11, 3) := by decide +kernel
theorem dX2_init_13 : decode cX2_init 13 = .ok (.iconst 0, 1) := by decide +kernel
theorem dX2_init_14 : decode cX2_init 14 = .ok (.istore_n 1, 1) := by decide +kernel
theorem dX2_init_15 : decode cX2_init 15 = .ok (.iload_n 1, 1) := by decide +kernel
theorem dX2_init_16 : decode cX2_init 16 = .ok (.bipush 6, 2) := by decide +kernel
theorem dX2_init_18 : decode cX2_init 18 = .ok (.if_icmp .ge 22, 3) := by decide +kernel
theorem dX2_init_21 : decode cX2_init 21 = .ok (.aload_n 0, 1) := by decide +kernel
theorem dX2_init_22 : decode cX2_init 22 = .ok (.getfield 11, 3) := by decide +kernel
theorem dX2_init_25 : decode cX2_init 25 = .ok (.iload_n 1, 1) := by decide +kernel
theorem dX2_init_26 : decode cX2_init 26 = .ok (.new 9, 3) := by decide +kernel
theorem dX2_init_29 : decode cX2_init 29 = .ok (.dup, 1) := by decide +kernel
theorem dX2_init_30 : decode cX2_init 30 = .ok (.invokespecial 17, 3) := by decide +kernel
theorem dX2_init_33 : decode cX2_init 33 = .ok (.aastore, 1) := by decide +kernel
theorem dX2_init_34 : decode cX2_init 34 = .ok (.iinc 1 1, 3) := by decide +kernel
theorem dX2_init_37 : decode cX2_init 37 = .ok (.goto (-22), 3) := by decide +kernel
theorem dX2_init_40 : decode cX2_init 40 = .ok (.return_, 1) := by decide +kernel
theorem dX2_remember_0 : decode cX2_remember 0 = .ok (.aload_n 0, 1) := by decide +kernel
theorem dX2_remember_1 : decode cX2_remember 1 = .ok (.getfield 11, 3) := by decide +kernel
theorem dX2_remember_4 : decode cX2_remember 4 = .ok (.aload_n 0, 1) := by decide +kernel
theorem dX2_remember_5 : decode cX2_remember 5 = .ok (.getfield 18, 3) := by decide +kernel
theorem dX2_remember_8 : decode cX2_remember 8 = .ok (.aaload, 1) := by decide +kernel
theorem dX2_remember_9 : decode cX2_remember 9 = .ok (.aload_n 1, 1) := by decide +kernel
theorem dX2_remember_10 : decode cX2_remember 10 = .ok (.invokevirtual 22, 3) := by decide +kernel
theorem dX2_remember_13 : decode cX2_remember 13 = .ok (.aload_n 0, 1) := by decide +kernel
theorem dX2_remember_14 : decode cX2_remember 14 = .ok (.aload_n 0, 1) := by decide +kernel
theorem dX2_remember_15 : decode cX2_remember 15 = .ok (.getfield 18, 3) := by decide +kernel
theorem dX2_remember_18 : decode cX2_remember 18 = .ok (.iconst 1, 1) := by decide +kernel
theorem dX2_remember_19 : decode cX2_remember 19 = .ok (.iadd, 1) := by decide +kernel
theorem dX2_remember_20 : decode cX2_remember 20 = .ok (.bipush 6, 2) := by decide +kernel
theorem dX2_remember_22 : decode cX2_remember 22 = .ok (.irem, 1) := by decide +kernel
theorem dX2_remember_23 : decode cX2_remember 23 = .ok (.putfield 18, 3) := by decide +kernel
theorem dX2_remember_26 : decode cX2_remember 26 = .ok (.aload_n 0, 1) := by decide +kernel
theorem dX2_remember_27 : decode cX2_remember 27 = .ok (.aload_n 0, 1) := by decide +kernel
theorem dX2_remember_28 : decode cX2_remember 28 = .ok (.getfield 26, 3) := by decide +kernel
theorem dX2_remember_31 : decode cX2_remember 31 = .ok (.iconst 1, 1) := by decide +kernel
theorem dX2_remember_32 : decode cX2_remember 32 = .ok (.iadd, 1) := by decide +kernel
theorem dX2_remember_33 : decode cX2_remember 33 = .ok (.bipush 6, 2) := by decide +kernel
theorem dX2_remember_35 : decode cX2_remember 35 = .ok (.invokestatic 29, 3) := by decide +kernel
theorem dX2_remember_38 : decode cX2_remember 38 = .ok (.putfield 26, 3) := by decide +kernel
theorem dX2_remember_41 : decode cX2_remember 41 = .ok (.return_, 1) := by decide +kernel
theorem dX2_recall_0 : decode cX2_recall 0 = .ok (.aload_n 0, 1) := by decide +kernel
theorem dX2_recall_1 : decode cX2_recall 1 = .ok (.getfield 26, 3) := by decide +kernel
theorem dX2_recall_4 : decode cX2_recall 4 = .ok (.ifCond .ne 5, 3) := by decide +kernel
theorem dX2_recall_7 : decode cX2_recall 7 = .ok (.iconst 0, 1) := by decide +kernel
theorem dX2_recall_8 : decode cX2_recall 8 = .ok (.ireturn, 1) := by decide +kernel
theorem dX2_recall_9 : decode cX2_recall 9 = .ok (.aload_n 0, 1) := by decide +kernel
theorem dX2_recall_10 : decode cX2_recall 10 = .ok (.aload_n 0, 1) := by decide +kernel
theorem dX2_recall_11 : decode cX2_recall 11 = .ok (.getfield 18, 3) := by decide +kernel
theorem dX2_recall_14 : decode cX2_recall 14 = .ok (.bipush 6, 2) := by decide +kernel
theorem dX2_recall_16 : decode cX2_recall 16 = .ok (.iadd, 1) := by decide +kernel
theorem dX2_recall_17 : decode cX2_recall 17 = .ok (.iconst 1, 1) := by decide +kernel
theorem dX2_recall_18 : decode cX2_recall 18 = .ok (.isub, 1) := by decide +kernel
theorem dX2_recall_19 : decode cX2_recall 19 = .ok (.bipush 6, 2) := by decide +kernel
theorem dX2_recall_21 : decode cX2_recall 21 = .ok (.irem, 1) := by decide +kernel
theorem dX2_recall_22 : decode cX2_recall 22 = .ok (.putfield 18, 3) := by decide +kernel
theorem dX2_recall_25 : decode cX2_recall 25 = .ok (.aload_n 0, 1) := by decide +kernel
theorem dX2_recall_26 : decode cX2_recall 26 = .ok (.dup, 1) := by decide +kernel
theorem dX2_recall_27 : decode cX2_recall 27 = .ok (.getfield 26, 3) := by decide +kernel
theorem dX2_recall_30 : decode cX2_recall 30 = .ok (.iconst 1, 1) := by decide +kernel
theorem dX2_recall_31 : decode cX2_recall 31 = .ok (.isub, 1) := by decide +kernel
theorem dX2_recall_32 : decode cX2_recall 32 = .ok (.putfield 26, 3) := by decide +kernel
theorem dX2_recall_35 : decode cX2_recall 35 = .ok (.aload_n 1, 1) := by decide +kernel
theorem dX2_recall_36 : decode cX2_recall 36 = .ok (.aload_n 0, 1) := by decide +kernel
theorem dX2_recall_37 : decode cX2_recall 37 = .ok (.getfield 11, 3) := by decide +kernel
theorem dX2_recall_40 : decode cX2_recall 40 = .ok (.aload_n 0, 1) := by decide +kernel
theorem dX2_recall_41 : decode cX2_recall 41 = .ok (.getfield 18, 3) := by decide +kernel
theorem dX2_recall_44 : decode cX2_recall 44 = .ok (.aaload, 1) := by decide +kernel
theorem dX2_recall_45 : decode cX2_recall 45 = .ok (.invokevirtual 22, 3) := by decide +kernel
theorem dX2_recall_48 : decode cX2_recall 48 = .ok (.iconst 1, 1) := by decide +kernel
theorem dX2_recall_49 : decode cX2_recall 49 = .ok (.ireturn, 1) := by decide +kernel
theorem dX2_drop_0 : decode cX2_drop 0 = .ok (.aload_n 0, 1) := by decide +kernel
theorem dX2_drop_1 : decode cX2_drop 1 = .ok (.iconst 0, 1) := by decide +kernel
theorem dX2_drop_2 : decode cX2_drop 2 = .ok (.putfield 26, 3) := by decide +kernel
theorem dX2_drop_5 : decode cX2_drop 5 = .ok (.return_, 1) := by decide +kernel
theorem dX3_init_0 : decode cX3_init 0 = .ok (.aload_n 0, 1) := by decide +kernel
theorem dX3_init_1 : decode cX3_init 1 = .ok (.invokespecial 3, 3) := by decide +kernel
theorem dX3_init_4 : decode cX3_init 4 = .ok (.aload_n 0, 1) := by decide +kernel
theorem dX3_init_5 : decode cX3_init 5 = .ok (.bipush 6, 2) := by decide +kernel
theorem dX3_init_7 : decode cX3_init 7 = .ok (.newarray .int, 2) := by decide +kernel
theorem dX3_init_9 : decode cX3_init 9 = .ok (.putfield 9, 3) := by decide +kernel
theorem dX3_init_12 : decode cX3_init 12 = .ok (.aload_n 0, 1) := by decide +kernel
theorem dX3_init_13 : decode cX3_init 13 = .ok (.bipush 6, 2) := by decide +kernel
theorem dX3_init_15 : decode cX3_init 15 = .ok (.newarray .int, 2) := by decide +kernel
theorem dX3_init_17 : decode cX3_init 17 = .ok (.putfield 15, 3) := by decide +kernel
theorem dX3_init_20 : decode cX3_init 20 = .ok (.return_, 1) := by decide +kernel
theorem dX3_add_0 : decode cX3_add 0 = .ok (.aload_n 0, 1) := by decide +kernel
theorem dX3_add_1 : decode cX3_add 1 = .ok (.getfield 18, 3) := by decide +kernel
theorem dX3_add_4 : decode cX3_add 4 = .ok (.bipush 6, 2) := by decide +kernel
theorem dX3_add_6 : decode cX3_add 6 = .ok (.if_icmp .lt 5, 3) := by decide +kernel
theorem dX3_add_9 : decode cX3_add 9 = .ok (.iconst 0, 1) := by decide +kernel
theorem dX3_add_10 : decode cX3_add 10 = .ok (.ireturn, 1) := by decide +kernel
theorem dX3_add_11 : decode cX3_add 11 = .ok (.aload_n 0, 1) := by decide +kernel
theorem dX3_add_12 : decode cX3_add 12 = .ok (.getfield 9, 3) := by decide +kernel
theorem dX3_add_15 : decode cX3_add 15 = .ok (.aload_n 0, 1) := by decide +kernel
theorem dX3_add_16 : decode cX3_add 16 = .ok (.getfield 18, 3) := by decide +kernel
theorem dX3_add_19 : decode cX3_add 19 = .ok (.iload_n 1, 1) := by decide +kernel
theorem dX3_add_20 : decode cX3_add 20 = .ok (.iastore, 1) := by decide +kernel
theorem dX3_add_21 : decode cX3_add 21 = .ok (.aload_n 0, 1) := by decide +kernel
theorem dX3_add_22 : decode cX3_add 22 = .ok (.getfield 15, 3) := by decide +kernel
theorem dX3_add_25 : decode cX3_add 25 = .ok (.aload_n 0, 1) := by decide +kernel
theorem dX3_add_26 : decode cX3_add 26 = .ok (.getfield 18, 3) := by decide +kernel
theorem dX3_add_29 : decode cX3_add 29 = .ok (.iload_n 2, 1) := by decide +kernel
theorem dX3_add_30 : decode cX3_add 30 = .ok (.iastore, 1) := by decide +kernel
theorem dX3_add_31 : decode cX3_add 31 = .ok (.aload_n 0, 1) := by decide +kernel
theorem dX3_add_32 : decode cX3_add 32 = .ok (.dup, 1) := by decide +kernel
theorem dX3_add_33 : decode cX3_add 33 = .ok (.getfield 18, 3) := by decide +kernel
theorem dX3_add_36 : decode cX3_add 36 = .ok (.iconst 1, 1) := by decide +kernel
theorem dX3_add_37 : decode cX3_add 37 = .ok (.iadd, 1) := by decide +kernel
theorem dX3_add_38 : decode cX3_add 38 = .ok (.putfield 18, 3) := by decide +kernel
theorem dX3_add_41 : decode cX3_add 41 = .ok (.iconst 1, 1) := by decide +kernel
theorem dX3_add_42 : decode cX3_add 42 = .ok (.ireturn, 1) := by decide +kernel
theorem dX3_empty_0 : decode cX3_empty 0 = .ok (.aload_n 0, 1) := by decide +kernel
theorem dX3_empty_1 : decode cX3_empty 1 = .ok (.getfield 18, 3) := by decide +kernel
theorem dX3_empty_4 : decode cX3_empty 4 = .ok (.istore_n 1, 1) := by decide +kernel
theorem dX3_empty_5 : decode cX3_empty 5 = .ok (.aload_n 0, 1) := by decide +kernel
theorem dX3_empty_6 : decode cX3_empty 6 = .ok (.iconst 0, 1) := by decide +kernel
theorem dX3_empty_7 : decode cX3_empty 7 = .ok (.putfield 18, 3) := by decide +kernel
theorem dX3_empty_10 : decode cX3_empty 10 = .ok (.iload_n 1, 1) := by decide +kernel
theorem dX3_empty_11 : decode cX3_empty 11 = .ok (.ireturn, 1) := by decide +kernel
theorem dX3_fit_0 : decode cX3_fit 0 = .ok (.iconst 0, 1) := by decide +kernel
theorem dX3_fit_1 : decode cX3_fit 1 = .ok (.istore_n 3, 1) := by decide +kernel
theorem dX3_fit_2 : decode cX3_fit 2 = .ok (.iload_n 3, 1) := by decide +kernel
theorem dX3_fit_3 : decode cX3_fit 3 = .ok (.aload_n 0, 1) := by decide +kernel
theorem dX3_fit_4 : decode cX3_fit 4 = .ok (.getfield 18, 3) := by decide +kernel
theorem dX3_fit_7 : decode cX3_fit 7 = .ok (.if_icmp .ge 34, 3) := by decide +kernel
theorem dX3_fit_10 : decode cX3_fit 10 = .ok (.aload_n 0, 1) := by decide +kernel
theorem dX3_fit_11 : decode cX3_fit 11 = .ok (.getfield 15, 3) := by decide +kernel
theorem dX3_fit_14 : decode cX3_fit 14 = .ok (.iload_n 3, 1) := by decide +kernel
theorem dX3_fit_15 : decode cX3_fit 15 = .ok (.iaload, 1) := by decide +kernel
theorem dX3_fit_16 : decode cX3_fit 16 = .ok (.aload_n 0, 1) := by decide +kernel
theorem dX3_fit_17 : decode cX3_fit 17 = .ok (.getfield 9, 3) := by decide +kernel
theorem dX3_fit_20 : decode cX3_fit 20 = .ok (.iload_n 3, 1) := by decide +kernel
theorem dX3_fit_21 : decode cX3_fit 21 = .ok (.iaload, 1) := by decide +kernel
theorem dX3_fit_22 : decode cX3_fit 22 = .ok (.ifCond .ne 7, 3) := by decide +kernel
theorem dX3_fit_25 : decode cX3_fit 25 = .ok (.iload_n 1, 1) := by decide +kernel
theorem dX3_fit_26 : decode cX3_fit 26 = .ok (.goto 4, 3) := by decide +kernel
theorem dX3_fit_29 : decode cX3_fit 29 = .ok (.iload_n 2, 1) := by decide +kernel
theorem dX3_fit_30 : decode cX3_fit 30 = .ok (.if_icmp .eq 5, 3) := by decide +kernel
theorem dX3_fit_33 : decode cX3_fit 33 = .ok (.iconst 0, 1) := by decide +kernel
theorem dX3_fit_34 : decode cX3_fit 34 = .ok (.ireturn, 1) := by decide +kernel
theorem dX3_fit_35 : decode cX3_fit 35 = .ok (.iinc 3 1, 3) := by decide +kernel
theorem dX3_fit_38 : decode cX3_fit 38 = .ok (.goto (-36), 3) := by decide +kernel
theorem dX3_fit_41 : decode cX3_fit 41 = .ok (.iconst 1, 1) := by decide +kernel
theorem dX3_fit_42 : decode cX3_fit 42 = .ok (.ireturn, 1) := by decide +kernel
theorem dX4_init_0 : decode cX4_init 0 = .ok (.aload_n 0, 1) := by decide +kernel
theorem dX4_init_1 : decode cX4_init 1 = .ok (.invokespecial 3, 3) := by decide +kernel
theorem dX4_init_4 : decode cX4_init 4 = .ok (.aload_n 0, 1) := by decide +kernel
theorem dX4_init_5 : decode cX4_init 5 = .ok (.iconst 2, 1) := by decide +kernel
theorem dX4_init_6 : decode cX4_init 6 = .ok (.putfield 9, 3) := by decide +kernel
theorem dX4_init_9 : decode cX4_init 9 = .ok (.aload_n 0, 1) := by decide +kernel
theorem dX4_init_10 : decode cX4_init 10 = .ok (.bipush 12, 2) := by decide +kernel
theorem dX4_init_12 : decode cX4_init 12 = .ok (.newarray .int, 2) := by decide +kernel
theorem dX4_init_14 : decode cX4_init 14 = .ok (.putfield 15, 3) := by decide +kernel
theorem dX4_init_17 : decode cX4_init 17 = .ok (.aload_n 0, 1) := by decide +kernel
theorem dX4_init_18 : decode cX4_init 18 = .ok (.bipush 12, 2) := by decide +kernel
theorem dX4_init_20 : decode cX4_init 20 = .ok (.newarray .int, 2) := by decide +kernel
theorem dX4_init_22 : decode cX4_init 22 = .ok (.putfield 19, 3) := by decide +kernel
theorem dX4_init_25 : decode cX4_init 25 = .ok (.aload_n 0, 1) := by decide +kernel
theorem dX4_init_26 : decode cX4_init 26 = .ok (.bipush 12, 2) := by decide +kernel
theorem dX4_init_28 : decode cX4_init 28 = .ok (.newarray .int, 2) := by decide +kernel
theorem dX4_init_30 : decode cX4_init 30 = .ok (.putfield 22, 3) := by decide +kernel
theorem dX4_init_33 : decode cX4_init 33 = .ok (.aload_n 0, 1) := by decide +kernel
theorem dX4_init_34 : decode cX4_init 34 = .ok (.bipush 7, 2) := by decide +kernel
theorem dX4_init_36 : decode cX4_init 36 = .ok (.newarray .int, 2) := by decide +kernel
theorem dX4_init_38 : decode cX4_init 38 = .ok (.putfield 25, 3) := by decide +kernel
theorem dX4_init_41 : decode cX4_init 41 = .ok (.return_, 1) := by decide +kernel
theorem dX4_beAsAtFirst_0 : decode cX4_beAsAtFirst 0 = .ok (.aload_n 0, 1) := by decide +kernel
theorem dX4_beAsAtFirst_1 : decode cX4_beAsAtFirst 1 = .ok (.iconst 2, 1) := by decide +kernel
theorem dX4_beAsAtFirst_2 : decode cX4_beAsAtFirst 2 = .ok (.putfield 9, 3) := by decide +kernel
theorem dX4_beAsAtFirst_5 : decode cX4_beAsAtFirst 5 = .ok (.aload_n 0, 1) := by decide +kernel
theorem dX4_beAsAtFirst_6 : decode cX4_beAsAtFirst 6 = .ok (.iconst 0, 1) := by decide +kernel
theorem dX4_beAsAtFirst_7 : decode cX4_beAsAtFirst 7 = .ok (.putfield 28, 3) := by decide +kernel
theorem dX4_beAsAtFirst_10 : decode cX4_beAsAtFirst 10 = .ok (.aload_n 0, 1) := by decide +kernel
theorem dX4_beAsAtFirst_11 : decode cX4_beAsAtFirst 11 = .ok (.iconst 0, 1) := by decide +kernel
theorem dX4_beAsAtFirst_12 : decode cX4_beAsAtFirst 12 = .ok (.putfield 31, 3) := by decide +kernel
theorem dX4_beAsAtFirst_15 : decode cX4_beAsAtFirst 15 = .ok (.aload_n 0, 1) := by decide +kernel
theorem dX4_beAsAtFirst_16 : decode cX4_beAsAtFirst 16 = .ok (.iconst 0, 1) := by decide +kernel
theorem dX4_beAsAtFirst_17 : decode cX4_beAsAtFirst 17 = .ok (.putfield 34, 3) := by decide +kernel
theorem dX4_beAsAtFirst_20 : decode cX4_beAsAtFirst 20 = .ok (.aload_n 0, 1) := by decide +kernel
theorem dX4_beAsAtFirst_21 : decode cX4_beAsAtFirst 21 = .ok (.iconst 0, 1) := by decide +kernel
theorem dX4_beAsAtFirst_22 : decode cX4_beAsAtFirst 22 = .ok (.putfield 37, 3) := by decide +kernel
theorem dX4_beAsAtFirst_25 : decode cX4_beAsAtFirst 25 = .ok (.aload_n 0, 1) := by decide +kernel
theorem dX4_beAsAtFirst_26 : decode cX4_beAsAtFirst 26 = .ok (.iconst 0, 1) := by decide +kernel
theorem dX4_beAsAtFirst_27 : decode cX4_beAsAtFirst 27 = .ok (.putfield 40, 3) := by decide +kernel
theorem dX4_beAsAtFirst_30 : decode cX4_beAsAtFirst 30 = .ok (.aload_n 0, 1) := by decide +kernel
theorem dX4_beAsAtFirst_31 : decode cX4_beAsAtFirst 31 = .ok (.iconst 0, 1) := by decide +kernel
theorem dX4_beAsAtFirst_32 : decode cX4_beAsAtFirst 32 = .ok (.putfield 43, 3) := by decide +kernel
theorem dX4_beAsAtFirst_35 : decode cX4_beAsAtFirst 35 = .ok (.aload_n 0, 1) := by decide +kernel
theorem dX4_beAsAtFirst_36 : decode cX4_beAsAtFirst 36 = .ok (.iconst 0, 1) := by decide +kernel
theorem dX4_beAsAtFirst_37 : decode cX4_beAsAtFirst 37 = .ok (.putfield 46, 3) := by decide +kernel
theorem dX4_beAsAtFirst_40 : decode cX4_beAsAtFirst 40 = .ok (.return_, 1) := by decide +kernel
theorem dX4_become_0 : decode cX4_become 0 = .ok (.aload_n 0, 1) := by decide +kernel
theorem dX4_become_1 : decode cX4_become 1 = .ok (.aload_n 1, 1) := by decide +kernel
theorem dX4_become_2 : decode cX4_become 2 = .ok (.getfield 9, 3) := by decide +kernel
theorem dX4_become_5 : decode cX4_become 5 = .ok (.putfield 9, 3) := by decide +kernel
theorem dX4_become_8 : decode cX4_become 8 = .ok (.aload_n 0, 1) := by decide +kernel
theorem dX4_become_9 : decode cX4_become 9 = .ok (.aload_n 1, 1) := by decide +kernel
theorem dX4_become_10 : decode cX4_become 10 = .ok (.getfield 28, 3) := by decide +kernel
theorem dX4_become_13 : decode cX4_become 13 = .ok (.putfield 28, 3) := by decide +kernel
theorem dX4_become_16 : decode cX4_become 16 = .ok (.aload_n 0, 1) := by decide +kernel
theorem dX4_become_17 : decode cX4_become 17 = .ok (.aload_n 1, 1) := by decide +kernel
theorem dX4_become_18 : decode cX4_become 18 = .ok (.getfield 31, 3) := by decide +kernel
theorem dX4_become_21 : decode cX4_become 21 = .ok (.putfield 31, 3) := by decide +kernel
theorem dX4_become_24 : decode cX4_become 24 = .ok (.aload_n 0, 1) := by decide +kernel
theorem dX4_become_25 : decode cX4_become 25 = .ok (.aload_n 1, 1) := by decide +kernel
theorem dX4_become_26 : decode cX4_become 26 = .ok (.getfield 34, 3) := by decide +kernel
theorem dX4_become_29 : decode cX4_become 29 = .ok (.putfield 34, 3) := by decide +kernel
theorem dX4_become_32 : decode cX4_become 32 = .ok (.aload_n 1, 1) := by decide +kernel
theorem dX4_become_33 : decode cX4_become 33 = .ok (.getfield 15, 3) := by decide +kernel
theorem dX4_become_36 : decode cX4_become 36 = .ok (.iconst 0, 1) := by decide +kernel
theorem dX4_become_37 : decode cX4_become 37 = .ok (.aload_n 0, 1) := by decide +kernel
theorem dX4_become_38 : decode cX4_become 38 = .ok (.getfield 15, 3) := by decide +kernel
theorem dX4_become_41 : decode cX4_become 41 = .ok (.iconst 0, 1) := by decide +kernel
theorem dX4_become_42 : decode cX4_become 42 = .ok (.bipush 12, 2) := by decide +kernel
theorem dX4_become_44 : decode cX4_become 44 = .ok (.invokestatic 49, 3) := by decide +kernel
theorem dX4_become_47 : decode cX4_become 47 = .ok (.aload_n 1, 1) := by decide +kernel
theorem dX4_become_48 : decode cX4_become 48 = .ok (.getfield 19, 3) := by decide +kernel
theorem dX4_become_51 : decode cX4_become 51 = .ok (.iconst 0, 1) := by decide +kernel
theorem dX4_become_52 : decode cX4_become 52 = .ok (.aload_n 0, 1) := by decide +kernel
theorem dX4_become_53 : decode cX4_become 53 = .ok (.getfield 19, 3) := by decide +kernel
theorem dX4_become_56 : decode cX4_become 56 = .ok (.iconst 0, 1) := by decide +kernel
theorem dX4_become_57 : decode cX4_become 57 = .ok (.bipush 12, 2) := by decide +kernel
theorem dX4_become_59 : decode cX4_become 59 = .ok (.invokestatic 49, 3) := by decide +kernel
theorem dX4_become_62 : decode cX4_become 62 = .ok (.aload_n 1, 1) := by decide +kernel
theorem dX4_become_63 : decode cX4_become 63 = .ok (.getfield 22, 3) := by decide +kernel
theorem dX4_become_66 : decode cX4_become 66 = .ok (.iconst 0, 1) := by decide +kernel
theorem dX4_become_67 : decode cX4_become 67 = .ok (.aload_n 0, 1) := by decide +kernel
theorem dX4_become_68 : decode cX4_become 68 = .ok (.getfield 22, 3) := by decide +kernel
theorem dX4_become_71 : decode cX4_become 71 = .ok (.iconst 0, 1) := by decide +kernel
theorem dX4_become_72 : decode cX4_become 72 = .ok (.bipush 12, 2) := by decide +kernel
theorem dX4_become_74 : decode cX4_become 74 = .ok (.invokestatic 49, 3) := by decide +kernel
theorem dX4_become_77 : decode cX4_become 77 = .ok (.aload_n 0, 1) := by decide +kernel
theorem dX4_become_78 : decode cX4_become 78 = .ok (.aload_n 1, 1) := by decide +kernel
theorem dX4_become_79 : decode cX4_become 79 = .ok (.getfield 37, 3) := by decide +kernel
theorem dX4_become_82 : decode cX4_become 82 = .ok (.putfield 37, 3) := by decide +kernel
theorem dX4_become_85 : decode cX4_become 85 = .ok (.aload_n 0, 1) := by decide +kernel
theorem dX4_become_86 : decode cX4_become 86 = .ok (.aload_n 1, 1) := by decide +kernel
theorem dX4_become_87 : decode cX4_become 87 = .ok (.getfield 40, 3) := by decide +kernel
theorem dX4_become_90 : decode cX4_become 90 = .ok (.putfield 40, 3) := by decide +kernel
theorem dX4_become_93 : decode cX4_become 93 = .ok (.aload_n 0, 1) := by decide +kernel
theorem dX4_become_94 : decode cX4_become 94 = .ok (.aload_n 1, 1) := by decide +kernel
theorem dX4_become_95 : decode cX4_become 95 = .ok (.getfield 43, 3) := by decide +kernel
theorem dX4_become_98 : decode cX4_become 98 = .ok (.putfield 43, 3) := by decide +kernel
theorem dX4_become_101 : decode cX4_become 101 = .ok (.aload_n 0, 1) := by decide +kernel
theorem dX4_become_102 : decode cX4_become 102 = .ok (.aload_n 1, 1) := by decide +kernel
theorem dX4_become_103 : decode cX4_become 103 = .ok (.getfield 46, 3) := by decide +kernel
theorem dX4_become_106 : decode cX4_become 106 = .ok (.putfield 46, 3) := by decide +kernel
theorem dX4_become_109 : decode cX4_become 109 = .ok (.aload_n 1, 1) := by decide +kernel
theorem dX4_become_110 : decode cX4_become 110 = .ok (.getfield 25, 3) := by decide +kernel
theorem dX4_become_113 : decode cX4_become 113 = .ok (.iconst 0, 1) := by decide +kernel
theorem dX4_become_114 : decode cX4_become 114 = .ok (.aload_n 0, 1) := by decide +kernel
theorem dX4_become_115 : decode cX4_become 115 = .ok (.getfield 25, 3) := by decide +kernel
theorem dX4_become_118 : decode cX4_become 118 = .ok (.iconst 0, 1) := by decide +kernel
theorem dX4_become_119 : decode cX4_become 119 = .ok (.bipush 7, 2) := by decide +kernel
theorem dX4_become_121 : decode cX4_become 121 = .ok (.invokestatic 49, 3) := by decide +kernel
theorem dX4_become_124 : decode cX4_become 124 = .ok (.return_, 1) := by decide +kernel
theorem dX4_hasNode_0 : decode cX4_hasNode 0 = .ok (.iload_n 1, 1) := by decide +kernel
theorem dX4_hasNode_1 : decode cX4_hasNode 1 = .ok (.ifCond .lt 15, 3) := by decide +kernel
theorem dX4_hasNode_4 : decode cX4_hasNode 4 = .ok (.iload_n 1, 1) := by decide +kernel
theorem dX4_hasNode_5 : decode cX4_hasNode 5 = .ok (.aload_n 0, 1) := by decide +kernel
theorem dX4_hasNode_6 : decode cX4_hasNode 6 = .ok (.getfield 9, 3) := by decide +kernel
theorem dX4_hasNode_9 : decode cX4_hasNode 9 = .ok (.if_icmp .ge 7, 3) := by decide +kernel
theorem dX4_hasNode_12 : decode cX4_hasNode 12 = .ok (.iconst 1, 1) := by decide +kernel
theorem dX4_hasNode_13 : decode cX4_hasNode 13 = .ok (.goto 4, 3) := by decide +kernel
theorem dX4_hasNode_16 : decode cX4_hasNode 16 = .ok (.iconst 0, 1) := by decide +kernel
theorem dX4_hasNode_17 : decode cX4_hasNode 17 = .ok (.ireturn, 1) := by decide +kernel
theorem dX4_hasLink_0 : decode cX4_hasLink 0 = .ok (.iload_n 1, 1) := by decide +kernel
theorem dX4_hasLink_1 : decode cX4_hasLink 1 = .ok (.ifCond .lt 15, 3) := by decide +kernel
theorem dX4_hasLink_4 : decode cX4_hasLink 4 = .ok (.iload_n 1, 1) := by decide +kernel
theorem dX4_hasLink_5 : decode cX4_hasLink 5 = .ok (.aload_n 0, 1) := by decide +kernel
theorem dX4_hasLink_6 : decode cX4_hasLink 6 = .ok (.getfield 34, 3) := by decide +kernel
theorem dX4_hasLink_9 : decode cX4_hasLink 9 = .ok (.if_icmp .ge 7, 3) := by decide +kernel
theorem dX4_hasLink_12 : decode cX4_hasLink 12 = .ok (.iconst 1, 1) := by decide +kernel
theorem dX4_hasLink_13 : decode cX4_hasLink 13 = .ok (.goto 4, 3) := by decide +kernel
theorem dX4_hasLink_16 : decode cX4_hasLink 16 = .ok (.iconst 0, 1) := by decide +kernel
theorem dX4_hasLink_17 : decode cX4_hasLink 17 = .ok (.ireturn, 1) := by decide +kernel
theorem dX4_isMember_0 : decode cX4_isMember 0 = .ok (.aload_n 0, 1) := by decide +kernel
theorem dX4_isMember_1 : decode cX4_isMember 1 = .ok (.getfield 37, 3) := by decide +kernel
theorem dX4_isMember_4 : decode cX4_isMember 4 = .ok (.iload_n 1, 1) := by decide +kernel
theorem dX4_isMember_5 : decode cX4_isMember 5 = .ok (.invokestatic 55, 3) := by decide +kernel
theorem dX4_isMember_8 : decode cX4_isMember 8 = .ok (.ireturn, 1) := by decide +kernel
theorem dX4_addLink_0 : decode cX4_addLink 0 = .ok (.aload_n 0, 1) := by decide +kernel
theorem dX4_addLink_1 : decode cX4_addLink 1 = .ok (.getfield 34, 3) := by decide +kernel
theorem dX4_addLink_4 : decode cX4_addLink 4 = .ok (.bipush 12, 2) := by decide +kernel
theorem dX4_addLink_6 : decode cX4_addLink 6 = .ok (.if_icmp .ge 43, 3) := by decide +kernel
theorem dX4_addLink_9 : decode cX4_addLink 9 = .ok (.aload_n 0, 1) := by decide +kernel
theorem dX4_addLink_10 : decode cX4_addLink 10 = .ok (.getfield 15, 3) := by decide +kernel
theorem dX4_addLink_13 : decode cX4_addLink 13 = .ok (.aload_n 0, 1) := by decide +kernel
theorem dX4_addLink_14 : decode cX4_addLink 14 = .ok (.getfield 34, 3) := by decide +kernel
theorem dX4_addLink_17 : decode cX4_addLink 17 = .ok (.iload_n 1, 1) := by decide +kernel
theorem dX4_addLink_18 : decode cX4_addLink 18 = .ok (.iastore, 1) := by decide +kernel
theorem dX4_addLink_19 : decode cX4_addLink 19 = .ok (.aload_n 0, 1) := by decide +kernel
theorem dX4_addLink_20 : decode cX4_addLink 20 = .ok (.getfield 19, 3) := by decide +kernel
theorem dX4_addLink_23 : decode cX4_addLink 23 = .ok (.aload_n 0, 1) := by decide +kernel
theorem dX4_addLink_24 : decode cX4_addLink 24 = .ok (.getfield 34, 3) := by decide +kernel
theorem dX4_addLink_27 : decode cX4_addLink 27 = .ok (.iload_n 2, 1) := by decide +kernel
theorem dX4_addLink_28 : decode cX4_addLink 28 = .ok (.iastore, 1) := by decide +kernel
theorem dX4_addLink_29 : decode cX4_addLink 29 = .ok (.aload_n 0, 1) := by decide +kernel
theorem dX4_addLink_30 : decode cX4_addLink 30 = .ok (.getfield 22, 3) := by decide +kernel
theorem dX4_addLink_33 : decode cX4_addLink 33 = .ok (.aload_n 0, 1) := by decide +kernel
theorem dX4_addLink_34 : decode cX4_addLink 34 = .ok (.getfield 34, 3) := by decide +kernel
theorem dX4_addLink_37 : decode cX4_addLink 37 = .ok (.iload_n 3, 1) := by decide +kernel
theorem dX4_addLink_38 : decode cX4_addLink 38 = .ok (.iastore, 1) := by decide +kernel
theorem dX4_addLink_39 : decode cX4_addLink 39 = .ok (.aload_n 0, 1) := by decide +kernel
theorem dX4_addLink_40 : decode cX4_addLink 40 = .ok (.dup, 1) := by decide +kernel
theorem dX4_addLink_41 : decode cX4_addLink 41 = .ok (.getfield 34, 3) := by decide +kernel
theorem dX4_addLink_44 : decode cX4_addLink 44 = .ok (.iconst 1, 1) := by decide +kernel
theorem dX4_addLink_45 : decode cX4_addLink 45 = .ok (.iadd, 1) := by decide +kernel
theorem dX4_addLink_46 : decode cX4_addLink 46 = .ok (.putfield 34, 3) := by decide +kernel
theorem dX4_addLink_49 : decode cX4_addLink 49 = .ok (.return_, 1) := by decide +kernel
theorem dX4_areLinked_0 : decode cX4_areLinked 0 = .ok (.aload_n 0, 1) := by decide +kernel
theorem dX4_areLinked_1 : decode cX4_areLinked 1 = .ok (.iload_n 1, 1) := by decide +kernel
theorem dX4_areLinked_2 : decode cX4_areLinked 2 = .ok (.invokevirtual 59, 3) := by decide +kernel
theorem dX4_areLinked_5 : decode cX4_areLinked 5 = .ok (.aload_n 0, 1) := by decide +kernel
theorem dX4_areLinked_6 : decode cX4_areLinked 6 = .ok (.iload_n 2, 1) := by decide +kernel
theorem dX4_areLinked_7 : decode cX4_areLinked 7 = .ok (.invokevirtual 59, 3) := by decide +kernel
theorem dX4_areLinked_10 : decode cX4_areLinked 10 = .ok (.iand, 1) := by decide +kernel
theorem dX4_areLinked_11 : decode cX4_areLinked 11 = .ok (.ifCond .eq 7, 3) := by decide +kernel
theorem dX4_areLinked_14 : decode cX4_areLinked 14 = .ok (.iconst 1, 1) := by decide +kernel
theorem dX4_areLinked_15 : decode cX4_areLinked 15 = .ok (.goto 4, 3) := by decide +kernel
theorem dX4_areLinked_18 : decode cX4_areLinked 18 = .ok (.iconst 0, 1) := by decide +kernel
theorem dX4_areLinked_19 : decode cX4_areLinked 19 = .ok (.ireturn, 1) := by decide +kernel
theorem dX4_ends_0 : decode cX4_ends 0 = .ok (.iconst 1, 1) := by decide +kernel
theorem dX4_ends_1 : decode cX4_ends 1 = .ok (.aload_n 0, 1) := by decide +kernel
theorem dX4_ends_2 : decode cX4_ends 2 = .ok (.getfield 15, 3) := by decide +kernel
theorem dX4_ends_5 : decode cX4_ends 5 = .ok (.iload_n 1, 1) := by decide +kernel
theorem dX4_ends_6 : decode cX4_ends 6 = .ok (.iaload, 1) := by decide +kernel
theorem dX4_ends_7 : decode cX4_ends 7 = .ok (.ishl, 1) := by decide +kernel
theorem dX4_ends_8 : decode cX4_ends 8 = .ok (.iconst 1, 1) := by decide +kernel
theorem dX4_ends_9 : decode cX4_ends 9 = .ok (.aload_n 0, 1) := by decide +kernel
theorem dX4_ends_10 : decode cX4_ends 10 = .ok (.getfield 19, 3) := by decide +kernel
theorem dX4_ends_13 : decode cX4_ends 13 = .ok (.iload_n 1, 1) := by decide +kernel
theorem dX4_ends_14 : decode cX4_ends 14 = .ok (.iaload, 1) := by decide +kernel
theorem dX4_ends_15 : decode cX4_ends 15 = .ok (.ishl, 1) := by decide +kernel
theorem dX4_ends_16 : decode cX4_ends 16 = .ok (.ior, 1) := by decide +kernel
theorem dX4_ends_17 : decode cX4_ends 17 = .ok (.ireturn, 1) := by decide +kernel
theorem dX4_linksAt_0 : decode cX4_linksAt 0 = .ok (.iconst 0, 1) := by decide +kernel
theorem dX4_linksAt_1 : decode cX4_linksAt 1 = .ok (.istore_n 2, 1) := by decide +kernel
theorem dX4_linksAt_2 : decode cX4_linksAt 2 = .ok (.iconst 0, 1) := by decide +kernel
theorem dX4_linksAt_3 : decode cX4_linksAt 3 = .ok (.istore_n 3, 1) := by decide +kernel
theorem dX4_linksAt_4 : decode cX4_linksAt 4 = .ok (.iload_n 3, 1) := by decide +kernel
theorem dX4_linksAt_5 : decode cX4_linksAt 5 = .ok (.aload_n 0, 1) := by decide +kernel
theorem dX4_linksAt_6 : decode cX4_linksAt 6 = .ok (.getfield 34, 3) := by decide +kernel
theorem dX4_linksAt_9 : decode cX4_linksAt 9 = .ok (.if_icmp .ge 27, 3) := by decide +kernel
theorem dX4_linksAt_12 : decode cX4_linksAt 12 = .ok (.aload_n 0, 1) := by decide +kernel
theorem dX4_linksAt_13 : decode cX4_linksAt 13 = .ok (.iload_n 3, 1) := by decide +kernel
theorem dX4_linksAt_14 : decode cX4_linksAt 14 = .ok (.invokevirtual 63, 3) := by decide +kernel
theorem dX4_linksAt_17 : decode cX4_linksAt 17 = .ok (.iload_n 1, 1) := by decide +kernel
theorem dX4_linksAt_18 : decode cX4_linksAt 18 = .ok (.invokestatic 55, 3) := by decide +kernel
theorem dX4_linksAt_21 : decode cX4_linksAt 21 = .ok (.ifCond .eq 9, 3) := by decide +kernel
theorem dX4_linksAt_24 : decode cX4_linksAt 24 = .ok (.iload_n 2, 1) := by decide +kernel
theorem dX4_linksAt_25 : decode cX4_linksAt 25 = .ok (.iconst 1, 1) := by decide +kernel
theorem dX4_linksAt_26 : decode cX4_linksAt 26 = .ok (.iload_n 3, 1) := by decide +kernel
theorem dX4_linksAt_27 : decode cX4_linksAt 27 = .ok (.ishl, 1) := by decide +kernel
theorem dX4_linksAt_28 : decode cX4_linksAt 28 = .ok (.ior, 1) := by decide +kernel
theorem dX4_linksAt_29 : decode cX4_linksAt 29 = .ok (.istore_n 2, 1) := by decide +kernel
theorem dX4_linksAt_30 : decode cX4_linksAt 30 = .ok (.iinc 3 1, 3) := by decide +kernel
theorem dX4_linksAt_33 : decode cX4_linksAt 33 = .ok (.goto (-29), 3) := by decide +kernel
theorem dX4_linksAt_36 : decode cX4_linksAt 36 = .ok (.iload_n 2, 1) := by decide +kernel
theorem dX4_linksAt_37 : decode cX4_linksAt 37 = .ok (.ireturn, 1) := by decide +kernel
theorem dX4_upLinks_0 : decode cX4_upLinks 0 = .ok (.iconst 1, 1) := by decide +kernel
theorem dX4_upLinks_1 : decode cX4_upLinks 1 = .ok (.aload_n 0, 1) := by decide +kernel
theorem dX4_upLinks_2 : decode cX4_upLinks 2 = .ok (.getfield 34, 3) := by decide +kernel
theorem dX4_upLinks_5 : decode cX4_upLinks 5 = .ok (.ishl, 1) := by decide +kernel
theorem dX4_upLinks_6 : decode cX4_upLinks 6 = .ok (.iconst 1, 1) := by decide +kernel
theorem dX4_upLinks_7 : decode cX4_upLinks 7 = .ok (.isub, 1) := by decide +kernel
theorem dX4_upLinks_8 : decode cX4_upLinks 8 = .ok (.aload_n 0, 1) := by decide +kernel
theorem dX4_upLinks_9 : decode cX4_upLinks 9 = .ok (.getfield 43, 3) := by decide +kernel
theorem dX4_upLinks_12 : decode cX4_upLinks 12 = .ok (.iconst (-1), 1) := by decide +kernel
theorem dX4_upLinks_13 : decode cX4_upLinks 13 = .ok (.ixor, 1) := by decide +kernel
theorem dX4_upLinks_14 : decode cX4_upLinks 14 = .ok (.iand, 1) := by decide +kernel
theorem dX4_upLinks_15 : decode cX4_upLinks 15 = .ok (.ireturn, 1) := by decide +kernel
theorem dX4_costOf_0 : decode cX4_costOf 0 = .ok (.iconst 0, 1) := by decide +kernel
theorem dX4_costOf_1 : decode cX4_costOf 1 = .ok (.istore_n 2, 1) := by decide +kernel
theorem dX4_costOf_2 : decode cX4_costOf 2 = .ok (.iconst 0, 1) := by decide +kernel
theorem dX4_costOf_3 : decode cX4_costOf 3 = .ok (.istore_n 3, 1) := by decide +kernel
theorem dX4_costOf_4 : decode cX4_costOf 4 = .ok (.iload_n 3, 1) := by decide +kernel
theorem dX4_costOf_5 : decode cX4_costOf 5 = .ok (.aload_n 0, 1) := by decide +kernel
theorem dX4_costOf_6 : decode cX4_costOf 6 = .ok (.getfield 34, 3) := by decide +kernel
theorem dX4_costOf_9 : decode cX4_costOf 9 = .ok (.if_icmp .ge 26, 3) := by decide +kernel
theorem dX4_costOf_12 : decode cX4_costOf 12 = .ok (.iload_n 1, 1) := by decide +kernel
theorem dX4_costOf_13 : decode cX4_costOf 13 = .ok (.iload_n 3, 1) := by decide +kernel
theorem dX4_costOf_14 : decode cX4_costOf 14 = .ok (.invokestatic 55, 3) := by decide +kernel
theorem dX4_costOf_17 : decode cX4_costOf 17 = .ok (.ifCond .eq 12, 3) := by decide +kernel
theorem dX4_costOf_20 : decode cX4_costOf 20 = .ok (.iload_n 2, 1) := by decide +kernel
theorem dX4_costOf_21 : decode cX4_costOf 21 = .ok (.aload_n 0, 1) := by decide +kernel
theorem dX4_costOf_22 : decode cX4_costOf 22 = .ok (.getfield 22, 3) := by decide +kernel
theorem dX4_costOf_25 : decode cX4_costOf 25 = .ok (.iload_n 3, 1) := by decide +kernel
theorem dX4_costOf_26 : decode cX4_costOf 26 = .ok (.iaload, 1) := by decide +kernel
theorem dX4_costOf_27 : decode cX4_costOf 27 = .ok (.iadd, 1) := by decide +kernel
theorem dX4_costOf_28 : decode cX4_costOf 28 = .ok (.istore_n 2, 1) := by decide +kernel
theorem dX4_costOf_29 : decode cX4_costOf 29 = .ok (.iinc 3 1, 3) := by decide +kernel
theorem dX4_costOf_32 : decode cX4_costOf 32 = .ok (.goto (-28), 3) := by decide +kernel
theorem dX4_costOf_35 : decode cX4_costOf 35 = .ok (.iload_n 2, 1) := by decide +kernel
theorem dX4_costOf_36 : decode cX4_costOf 36 = .ok (.ireturn, 1) := by decide +kernel
theorem dX4_nodesOf_0 : decode cX4_nodesOf 0 = .ok (.iconst 1, 1) := by decide +kernel
theorem dX4_nodesOf_1 : decode cX4_nodesOf 1 = .ok (.aload_n 0, 1) := by decide +kernel
theorem dX4_nodesOf_2 : decode cX4_nodesOf 2 = .ok (.getfield 28, 3) := by decide +kernel
theorem dX4_nodesOf_5 : decode cX4_nodesOf 5 = .ok (.ishl, 1) := by decide +kernel
theorem dX4_nodesOf_6 : decode cX4_nodesOf 6 = .ok (.istore_n 2, 1) := by decide +kernel
theorem dX4_nodesOf_7 : decode cX4_nodesOf 7 = .ok (.iconst 0, 1) := by decide +kernel
theorem dX4_nodesOf_8 : decode cX4_nodesOf 8 = .ok (.istore_n 3, 1) := by decide +kernel
theorem dX4_nodesOf_9 : decode cX4_nodesOf 9 = .ok (.iload_n 3, 1) := by decide +kernel
theorem dX4_nodesOf_10 : decode cX4_nodesOf 10 = .ok (.aload_n 0, 1) := by decide +kernel
theorem dX4_nodesOf_11 : decode cX4_nodesOf 11 = .ok (.getfield 34, 3) := by decide +kernel
theorem dX4_nodesOf_14 : decode cX4_nodesOf 14 = .ok (.if_icmp .ge 25, 3) := by decide +kernel
theorem dX4_nodesOf_17 : decode cX4_nodesOf 17 = .ok (.iload_n 1, 1) := by decide +kernel
theorem dX4_nodesOf_18 : decode cX4_nodesOf 18 = .ok (.iload_n 3, 1) := by decide +kernel
theorem dX4_nodesOf_19 : decode cX4_nodesOf 19 = .ok (.invokestatic 55, 3) := by decide +kernel
theorem dX4_nodesOf_22 : decode cX4_nodesOf 22 = .ok (.ifCond .eq 11, 3) := by decide +kernel
theorem dX4_nodesOf_25 : decode cX4_nodesOf 25 = .ok (.iload_n 2, 1) := by decide +kernel
theorem dX4_nodesOf_26 : decode cX4_nodesOf 26 = .ok (.aload_n 0, 1) := by decide +kernel
theorem dX4_nodesOf_27 : decode cX4_nodesOf 27 = .ok (.iload_n 3, 1) := by decide +kernel
theorem dX4_nodesOf_28 : decode cX4_nodesOf 28 = .ok (.invokevirtual 63, 3) := by decide +kernel
theorem dX4_nodesOf_31 : decode cX4_nodesOf 31 = .ok (.ior, 1) := by decide +kernel
theorem dX4_nodesOf_32 : decode cX4_nodesOf 32 = .ok (.istore_n 2, 1) := by decide +kernel
theorem dX4_nodesOf_33 : decode cX4_nodesOf 33 = .ok (.iinc 3 1, 3) := by decide +kernel
theorem dX4_nodesOf_36 : decode cX4_nodesOf 36 = .ok (.goto (-27), 3) := by decide +kernel
theorem dX4_nodesOf_39 : decode cX4_nodesOf 39 = .ok (.iload_n 2, 1) := by decide +kernel
theorem dX4_nodesOf_40 : decode cX4_nodesOf 40 = .ok (.ireturn, 1) := by decide +kernel
theorem dX4_hangingBy_0 : decode cX4_hangingBy 0 = .ok (.iconst 1, 1) := by decide +kernel
theorem dX4_hangingBy_1 : decode cX4_hangingBy 1 = .ok (.aload_n 0, 1) := by decide +kernel
theorem dX4_hangingBy_2 : decode cX4_hangingBy 2 = .ok (.getfield 28, 3) := by decide +kernel
theorem dX4_hangingBy_5 : decode cX4_hangingBy 5 = .ok (.ishl, 1) := by decide +kernel
theorem dX4_hangingBy_6 : decode cX4_hangingBy 6 = .ok (.istore_n 2, 1) := by decide +kernel
theorem dX4_hangingBy_7 : decode cX4_hangingBy 7 = .ok (.iconst 1, 1) := by decide +kernel
theorem dX4_hangingBy_8 : decode cX4_hangingBy 8 = .ok (.istore_n 3, 1) := by decide +kernel
theorem dX4_hangingBy_9 : decode cX4_hangingBy 9 = .ok (.iload_n 3, 1) := by decide +kernel
theorem dX4_hangingBy_10 : decode cX4_hangingBy 10 = .ok (.aload_n 0, 1) := by decide +kernel
theorem dX4_hangingBy_11 : decode cX4_hangingBy 11 = .ok (.getfield 9, 3) := by decide +kernel
theorem dX4_hangingBy_14 : decode cX4_hangingBy 14 = .ok (.if_icmp .ge 56, 3) := by decide +kernel
theorem dX4_hangingBy_17 : decode cX4_hangingBy 17 = .ok (.iconst 0, 1) := by decide +kernel
theorem dX4_hangingBy_18 : decode cX4_hangingBy 18 = .ok (.istore 4, 2) := by decide +kernel
theorem dX4_hangingBy_20 : decode cX4_hangingBy 20 = .ok (.iload 4, 2) := by decide +kernel
theorem dX4_hangingBy_22 : decode cX4_hangingBy 22 = .ok (.aload_n 0, 1) := by decide +kernel
theorem dX4_hangingBy_23 : decode cX4_hangingBy 23 = .ok (.getfield 34, 3) := by decide +kernel
theorem dX4_hangingBy_26 : decode cX4_hangingBy 26 = .ok (.if_icmp .ge 38, 3) := by decide +kernel
theorem dX4_hangingBy_29 : decode cX4_hangingBy 29 = .ok (.iload_n 1, 1) := by decide +kernel
theorem dX4_hangingBy_30 : decode cX4_hangingBy 30 = .ok (.iload 4, 2) := by decide +kernel
theorem dX4_hangingBy_32 : decode cX4_hangingBy 32 = .ok (.invokestatic 55, 3) := by decide +kernel
theorem dX4_hangingBy_35 : decode cX4_hangingBy 35 = .ok (.ifCond .eq 23, 3) := by decide +kernel
theorem dX4_hangingBy_38 : decode cX4_hangingBy 38 = .ok (.iload_n 2, 1) := by decide +kernel
theorem dX4_hangingBy_39 : decode cX4_hangingBy 39 = .ok (.aload_n 0, 1) := by decide +kernel
theorem dX4_hangingBy_40 : decode cX4_hangingBy 40 = .ok (.iload 4, 2) := by decide +kernel
theorem dX4_hangingBy_42 : decode cX4_hangingBy 42 = .ok (.invokevirtual 63, 3) := by decide +kernel
theorem dX4_hangingBy_45 : decode cX4_hangingBy 45 = .ok (.iand, 1) := by decide +kernel
theorem dX4_hangingBy_46 : decode cX4_hangingBy 46 = .ok (.ifCond .eq 12, 3) := by decide +kernel
theorem dX4_hangingBy_49 : decode cX4_hangingBy 49 = .ok (.iload_n 2, 1) := by decide +kernel
theorem dX4_hangingBy_50 : decode cX4_hangingBy 50 = .ok (.aload_n 0, 1) := by decide +kernel
theorem dX4_hangingBy_51 : decode cX4_hangingBy 51 = .ok (.iload 4, 2) := by decide +kernel
theorem dX4_hangingBy_53 : decode cX4_hangingBy 53 = .ok (.invokevirtual 63, 3) := by decide +kernel
theorem dX4_hangingBy_56 : decode cX4_hangingBy 56 = .ok (.ior, 1) := by decide +kernel
theorem dX4_hangingBy_57 : decode cX4_hangingBy 57 = .ok (.istore_n 2, 1) := by decide +kernel
theorem dX4_hangingBy_58 : decode cX4_hangingBy 58 = .ok (.iinc 4 1, 3) := by decide +kernel
theorem dX4_hangingBy_61 : decode cX4_hangingBy 61 = .ok (.goto (-41), 3) := by decide +kernel
theorem dX4_hangingBy_64 : decode cX4_hangingBy 64 = .ok (.iinc 3 1, 3) := by decide +kernel
theorem dX4_hangingBy_67 : decode cX4_hangingBy 67 = .ok (.goto (-58), 3) := by decide +kernel
theorem dX4_hangingBy_70 : decode cX4_hangingBy 70 = .ok (.iload_n 2, 1) := by decide +kernel
theorem dX4_hangingBy_71 : decode cX4_hangingBy 71 = .ok (.ireturn, 1) := by decide +kernel
theorem dX4_membersOff_0 : decode cX4_membersOff 0 = .ok (.aload_n 0, 1) := by decide +kernel
theorem dX4_membersOff_1 : decode cX4_membersOff 1 = .ok (.getfield 37, 3) := by decide +kernel
theorem dX4_membersOff_4 : decode cX4_membersOff 4 = .ok (.aload_n 0, 1) := by decide +kernel
theorem dX4_membersOff_5 : decode cX4_membersOff 5 = .ok (.iload_n 1, 1) := by decide +kernel
theorem dX4_membersOff_6 : decode cX4_membersOff 6 = .ok (.iconst 1, 1) := by decide +kernel
theorem dX4_membersOff_7 : decode cX4_membersOff 7 = .ok (.iload_n 2, 1) := by decide +kernel
theorem dX4_membersOff_8 : decode cX4_membersOff 8 = .ok (.ishl, 1) := by decide +kernel
theorem dX4_membersOff_9 : decode cX4_membersOff 9 = .ok (.iconst (-1), 1) := by decide +kernel
theorem dX4_membersOff_10 : decode cX4_membersOff 10 = .ok (.ixor, 1) := by decide +kernel
theorem dX4_membersOff_11 : decode cX4_membersOff 11 = .ok (.iand, 1) := by decide +kernel
theorem dX4_membersOff_12 : decode cX4_membersOff 12 = .ok (.invokevirtual 66, 3) := by decide +kernel
theorem dX4_membersOff_15 : decode cX4_membersOff 15 = .ok (.iconst (-1), 1) := by decide +kernel
theorem dX4_membersOff_16 : decode cX4_membersOff 16 = .ok (.ixor, 1) := by decide +kernel
theorem dX4_membersOff_17 : decode cX4_membersOff 17 = .ok (.iand, 1) := by decide +kernel
theorem dX4_membersOff_18 : decode cX4_membersOff 18 = .ok (.ireturn, 1) := by decide +kernel
theorem dX4_load_0 : decode cX4_load 0 = .ok (.aload_n 0, 1) := by decide +kernel
theorem dX4_load_1 : decode cX4_load 1 = .ok (.getfield 40, 3) := by decide +kernel
theorem dX4_load_4 : decode cX4_load 4 = .ok (.iload_n 1, 1) := by decide +kernel
theorem dX4_load_5 : decode cX4_load 5 = .ok (.invokestatic 55, 3) := by decide +kernel
theorem dX4_load_8 : decode cX4_load 8 = .ok (.ifCond .eq 18, 3) := by decide +kernel
theorem dX4_load_11 : decode cX4_load 11 = .ok (.aload_n 0, 1) := by decide +kernel
theorem dX4_load_12 : decode cX4_load 12 = .ok (.aload_n 0, 1) := by decide +kernel
theorem dX4_load_13 : decode cX4_load 13 = .ok (.getfield 40, 3) := by decide +kernel
theorem dX4_load_16 : decode cX4_load 16 = .ok (.iload_n 1, 1) := by decide +kernel
theorem dX4_load_17 : decode cX4_load 17 = .ok (.invokevirtual 69, 3) := by decide +kernel
theorem dX4_load_20 : decode cX4_load 20 = .ok (.invokestatic 73, 3) := by decide +kernel
theorem dX4_load_23 : decode cX4_load 23 = .ok (.goto 4, 3) := by decide +kernel
theorem dX4_load_26 : decode cX4_load 26 = .ok (.iconst 0, 1) := by decide +kernel
theorem dX4_load_27 : decode cX4_load 27 = .ok (.ireturn, 1) := by decide +kernel
theorem dX4_busiest_0 : decode cX4_busiest 0 = .ok (.bipush (-9), 2) := by decide +kernel
theorem dX4_busiest_2 : decode cX4_busiest 2 = .ok (.istore_n 1, 1) := by decide +kernel
theorem dX4_busiest_3 : decode cX4_busiest 3 = .ok (.iconst (-1), 1) := by decide +kernel
theorem dX4_busiest_4 : decode cX4_busiest 4 = .ok (.istore_n 2, 1) := by decide +kernel
theorem dX4_busiest_5 : decode cX4_busiest 5 = .ok (.iconst 0, 1) := by decide +kernel
theorem dX4_busiest_6 : decode cX4_busiest 6 = .ok (.istore_n 3, 1) := by decide +kernel
theorem dX4_busiest_7 : decode cX4_busiest 7 = .ok (.iload_n 3, 1) := by decide +kernel
theorem dX4_busiest_8 : decode cX4_busiest 8 = .ok (.aload_n 0, 1) := by decide +kernel
theorem dX4_busiest_9 : decode cX4_busiest 9 = .ok (.getfield 34, 3) := by decide +kernel
theorem dX4_busiest_12 : decode cX4_busiest 12 = .ok (.if_icmp .ge 37, 3) := by decide +kernel
theorem dX4_busiest_15 : decode cX4_busiest 15 = .ok (.aload_n 0, 1) := by decide +kernel
theorem dX4_busiest_16 : decode cX4_busiest 16 = .ok (.getfield 40, 3) := by decide +kernel
theorem dX4_busiest_19 : decode cX4_busiest 19 = .ok (.iload_n 3, 1) := by decide +kernel
theorem dX4_busiest_20 : decode cX4_busiest 20 = .ok (.invokestatic 55, 3) := by decide +kernel
theorem dX4_busiest_23 : decode cX4_busiest 23 = .ok (.ifCond .eq 20, 3) := by decide +kernel
theorem dX4_busiest_26 : decode cX4_busiest 26 = .ok (.aload_n 0, 1) := by decide +kernel
theorem dX4_busiest_27 : decode cX4_busiest 27 = .ok (.iload_n 3, 1) := by decide +kernel
theorem dX4_busiest_28 : decode cX4_busiest 28 = .ok (.invokevirtual 78, 3) := by decide +kernel
theorem dX4_busiest_31 : decode cX4_busiest 31 = .ok (.iload_n 2, 1) := by decide +kernel
theorem dX4_busiest_32 : decode cX4_busiest 32 = .ok (.if_icmp .le 11, 3) := by decide +kernel
theorem dX4_busiest_35 : decode cX4_busiest 35 = .ok (.iload_n 3, 1) := by decide +kernel
theorem dX4_busiest_36 : decode cX4_busiest 36 = .ok (.istore_n 1, 1) := by decide +kernel
theorem dX4_busiest_37 : decode cX4_busiest 37 = .ok (.aload_n 0, 1) := by decide +kernel
theorem dX4_busiest_38 : decode cX4_busiest 38 = .ok (.iload_n 3, 1) := by decide +kernel
theorem dX4_busiest_39 : decode cX4_busiest 39 = .ok (.invokevirtual 78, 3) := by decide +kernel
theorem dX4_busiest_42 : decode cX4_busiest 42 = .ok (.istore_n 2, 1) := by decide +kernel
theorem dX4_busiest_43 : decode cX4_busiest 43 = .ok (.iinc 3 1, 3) := by decide +kernel
theorem dX4_busiest_46 : decode cX4_busiest 46 = .ok (.goto (-39), 3) := by decide +kernel
theorem dX4_busiest_49 : decode cX4_busiest 49 = .ok (.iload_n 1, 1) := by decide +kernel
theorem dX4_busiest_50 : decode cX4_busiest 50 = .ok (.ireturn, 1) := by decide +kernel
theorem dX4_needed_0 : decode cX4_needed 0 = .ok (.iconst 0, 1) := by decide +kernel
theorem dX4_needed_1 : decode cX4_needed 1 = .ok (.istore_n 1, 1) := by decide +kernel
theorem dX4_needed_2 : decode cX4_needed 2 = .ok (.iconst 0, 1) := by decide +kernel
theorem dX4_needed_3 : decode cX4_needed 3 = .ok (.istore_n 2, 1) := by decide +kernel
theorem dX4_needed_4 : decode cX4_needed 4 = .ok (.iload_n 2, 1) := by decide +kernel
theorem dX4_needed_5 : decode cX4_needed 5 = .ok (.aload_n 0, 1) := by decide +kernel
theorem dX4_needed_6 : decode cX4_needed 6 = .ok (.getfield 34, 3) := by decide +kernel
theorem dX4_needed_9 : decode cX4_needed 9 = .ok (.if_icmp .ge 38, 3) := by decide +kernel
theorem dX4_needed_12 : decode cX4_needed 12 = .ok (.aload_n 0, 1) := by decide +kernel
theorem dX4_needed_13 : decode cX4_needed 13 = .ok (.getfield 40, 3) := by decide +kernel
theorem dX4_needed_16 : decode cX4_needed 16 = .ok (.iload_n 2, 1) := by decide +kernel
theorem dX4_needed_17 : decode cX4_needed 17 = .ok (.invokestatic 55, 3) := by decide +kernel
theorem dX4_needed_20 : decode cX4_needed 20 = .ok (.ifCond .eq 21, 3) := by decide +kernel
theorem dX4_needed_23 : decode cX4_needed 23 = .ok (.aload_n 0, 1) := by decide +kernel
theorem dX4_needed_24 : decode cX4_needed 24 = .ok (.aload_n 0, 1) := by decide +kernel
theorem dX4_needed_25 : decode cX4_needed 25 = .ok (.invokevirtual 81, 3) := by decide +kernel
theorem dX4_needed_28 : decode cX4_needed 28 = .ok (.iload_n 2, 1) := by decide +kernel
theorem dX4_needed_29 : decode cX4_needed 29 = .ok (.invokevirtual 69, 3) := by decide +kernel
theorem dX4_needed_32 : decode cX4_needed 32 = .ok (.ifCond .eq 9, 3) := by decide +kernel
theorem dX4_needed_35 : decode cX4_needed 35 = .ok (.iload_n 1, 1) := by decide +kernel
theorem dX4_needed_36 : decode cX4_needed 36 = .ok (.iconst 1, 1) := by decide +kernel
theorem dX4_needed_37 : decode cX4_needed 37 = .ok (.iload_n 2, 1) := by decide +kernel
theorem dX4_needed_38 : decode cX4_needed 38 = .ok (.ishl, 1) := by decide +kernel
theorem dX4_needed_39 : decode cX4_needed 39 = .ok (.ior, 1) := by decide +kernel
theorem dX4_needed_40 : decode cX4_needed 40 = .ok (.istore_n 1, 1) := by decide +kernel
theorem dX4_needed_41 : decode cX4_needed 41 = .ok (.iinc 2 1, 3) := by decide +kernel
theorem dX4_needed_44 : decode cX4_needed 44 = .ok (.goto (-40), 3) := by decide +kernel
theorem dX4_needed_47 : decode cX4_needed 47 = .ok (.iload_n 1, 1) := by decide +kernel
theorem dX4_needed_48 : decode cX4_needed 48 = .ok (.ireturn, 1) := by decide +kernel
theorem dX4_markOf_0 : decode cX4_markOf 0 = .ok (.iconst 0, 1) := by decide +kernel
theorem dX4_markOf_1 : decode cX4_markOf 1 = .ok (.istore_n 2, 1) := by decide +kernel
theorem dX4_markOf_2 : decode cX4_markOf 2 = .ok (.iload_n 2, 1) := by decide +kernel
theorem dX4_markOf_3 : decode cX4_markOf 3 = .ok (.aload_n 0, 1) := by decide +kernel
theorem dX4_markOf_4 : decode cX4_markOf 4 = .ok (.getfield 46, 3) := by decide +kernel
theorem dX4_markOf_7 : decode cX4_markOf 7 = .ok (.if_icmp .ge 21, 3) := by decide +kernel
theorem dX4_markOf_10 : decode cX4_markOf 10 = .ok (.aload_n 0, 1) := by decide +kernel
theorem dX4_markOf_11 : decode cX4_markOf 11 = .ok (.getfield 25, 3) := by decide +kernel
theorem dX4_markOf_14 : decode cX4_markOf 14 = .ok (.iload_n 2, 1) := by decide +kernel
theorem dX4_markOf_15 : decode cX4_markOf 15 = .ok (.iaload, 1) := by decide +kernel
theorem dX4_markOf_16 : decode cX4_markOf 16 = .ok (.iload_n 1, 1) := by decide +kernel
theorem dX4_markOf_17 : decode cX4_markOf 17 = .ok (.if_icmp .ne 5, 3) := by decide +kernel
theorem dX4_markOf_20 : decode cX4_markOf 20 = .ok (.iload_n 2, 1) := by decide +kernel
theorem dX4_markOf_21 : decode cX4_markOf 21 = .ok (.ireturn, 1) := by decide +kernel
theorem dX4_markOf_22 : decode cX4_markOf 22 = .ok (.iinc 2 1, 3) := by decide +kernel
theorem dX4_markOf_25 : decode cX4_markOf 25 = .ok (.goto (-23), 3) := by decide +kernel
theorem dX4_markOf_28 : decode cX4_markOf 28 = .ok (.bipush (-9), 2) := by decide +kernel
theorem dX4_markOf_30 : decode cX4_markOf 30 = .ok (.ireturn, 1) := by decide +kernel
theorem dX4_turnMark_0 : decode cX4_turnMark 0 = .ok (.aload_n 0, 1) := by decide +kernel
theorem dX4_turnMark_1 : decode cX4_turnMark 1 = .ok (.iload_n 1, 1) := by decide +kernel
theorem dX4_turnMark_2 : decode cX4_turnMark 2 = .ok (.invokevirtual 85, 3) := by decide +kernel
theorem dX4_turnMark_5 : decode cX4_turnMark 5 = .ok (.istore_n 2, 1) := by decide +kernel
theorem dX4_turnMark_6 : decode cX4_turnMark 6 = .ok (.iload_n 2, 1) := by decide +kernel
theorem dX4_turnMark_7 : decode cX4_turnMark 7 = .ok (.ifCond .lt 37, 3) := by decide +kernel
theorem dX4_turnMark_10 : decode cX4_turnMark 10 = .ok (.aload_n 0, 1) := by decide +kernel
theorem dX4_turnMark_11 : decode cX4_turnMark 11 = .ok (.dup, 1) := by decide +kernel
theorem dX4_turnMark_12 : decode cX4_turnMark 12 = .ok (.getfield 46, 3) := by decide +kernel
theorem dX4_turnMark_15 : decode cX4_turnMark 15 = .ok (.iconst 1, 1) := by decide +kernel
theorem dX4_turnMark_16 : decode cX4_turnMark 16 = .ok (.isub, 1) := by decide +kernel
theorem dX4_turnMark_17 : decode cX4_turnMark 17 = .ok (.putfield 46, 3) := by decide +kernel
theorem dX4_turnMark_20 : decode cX4_turnMark 20 = .ok (.aload_n 0, 1) := by decide +kernel
theorem dX4_turnMark_21 : decode cX4_turnMark 21 = .ok (.getfield 25, 3) := by decide +kernel
theorem dX4_turnMark_24 : decode cX4_turnMark 24 = .ok (.iload_n 2, 1) := by decide +kernel
theorem dX4_turnMark_25 : decode cX4_turnMark 25 = .ok (.iconst 1, 1) := by decide +kernel
theorem dX4_turnMark_26 : decode cX4_turnMark 26 = .ok (.iadd, 1) := by decide +kernel
theorem dX4_turnMark_27 : decode cX4_turnMark 27 = .ok (.aload_n 0, 1) := by decide +kernel
theorem dX4_turnMark_28 : decode cX4_turnMark 28 = .ok (.getfield 25, 3) := by decide +kernel
theorem dX4_turnMark_31 : decode cX4_turnMark 31 = .ok (.iload_n 2, 1) := by decide +kernel
theorem dX4_turnMark_32 : decode cX4_turnMark 32 = .ok (.aload_n 0, 1) := by decide +kernel
theorem dX4_turnMark_33 : decode cX4_turnMark 33 = .ok (.getfield 46, 3) := by decide +kernel
theorem dX4_turnMark_36 : decode cX4_turnMark 36 = .ok (.iload_n 2, 1) := by decide +kernel
theorem dX4_turnMark_37 : decode cX4_turnMark 37 = .ok (.isub, 1) := by decide +kernel
theorem dX4_turnMark_38 : decode cX4_turnMark 38 = .ok (.invokestatic 49, 3) := by decide +kernel
theorem dX4_turnMark_41 : decode cX4_turnMark 41 = .ok (.goto 32, 3) := by decide +kernel
theorem dX4_turnMark_44 : decode cX4_turnMark 44 = .ok (.aload_n 0, 1) := by decide +kernel
theorem dX4_turnMark_45 : decode cX4_turnMark 45 = .ok (.getfield 46, 3) := by decide +kernel
theorem dX4_turnMark_48 : decode cX4_turnMark 48 = .ok (.bipush 7, 2) := by decide +kernel
theorem dX4_turnMark_50 : decode cX4_turnMark 50 = .ok (.if_icmp .ge 23, 3) := by decide +kernel
theorem dX4_turnMark_53 : decode cX4_turnMark 53 = .ok (.aload_n 0, 1) := by decide +kernel
theorem dX4_turnMark_54 : decode cX4_turnMark 54 = .ok (.getfield 25, 3) := by decide +kernel
theorem dX4_turnMark_57 : decode cX4_turnMark 57 = .ok (.aload_n 0, 1) := by decide +kernel
theorem dX4_turnMark_58 : decode cX4_turnMark 58 = .ok (.getfield 46, 3) := by decide +kernel
theorem dX4_turnMark_61 : decode cX4_turnMark 61 = .ok (.iload_n 1, 1) := by decide +kernel
theorem dX4_turnMark_62 : decode cX4_turnMark 62 = .ok (.iastore, 1) := by decide +kernel
theorem dX4_turnMark_63 : decode cX4_turnMark 63 = .ok (.aload_n 0, 1) := by decide +kernel
theorem dX4_turnMark_64 : decode cX4_turnMark 64 = .ok (.dup, 1) := by decide +kernel
theorem dX4_turnMark_65 : decode cX4_turnMark 65 = .ok (.getfield 46, 3) := by decide +kernel
theorem dX4_turnMark_68 : decode cX4_turnMark 68 = .ok (.iconst 1, 1) := by decide +kernel
theorem dX4_turnMark_69 : decode cX4_turnMark 69 = .ok (.iadd, 1) := by decide +kernel
theorem dX4_turnMark_70 : decode cX4_turnMark 70 = .ok (.putfield 46, 3) := by decide +kernel
theorem dX4_turnMark_73 : decode cX4_turnMark 73 = .ok (.return_, 1) := by decide +kernel
theorem dX4_prune_0 : decode cX4_prune 0 = .ok (.aload_n 0, 1) := by decide +kernel
theorem dX4_prune_1 : decode cX4_prune 1 = .ok (.getfield 37, 3) := by decide +kernel
theorem dX4_prune_4 : decode cX4_prune 4 = .ok (.iconst 1, 1) := by decide +kernel
theorem dX4_prune_5 : decode cX4_prune 5 = .ok (.aload_n 0, 1) := by decide +kernel
theorem dX4_prune_6 : decode cX4_prune 6 = .ok (.getfield 28, 3) := by decide +kernel
theorem dX4_prune_9 : decode cX4_prune 9 = .ok (.ishl, 1) := by decide +kernel
theorem dX4_prune_10 : decode cX4_prune 10 = .ok (.ior, 1) := by decide +kernel
theorem dX4_prune_11 : decode cX4_prune 11 = .ok (.istore_n 1, 1) := by decide +kernel
theorem dX4_prune_12 : decode cX4_prune 12 = .ok (.iconst 0, 1) := by decide +kernel
theorem dX4_prune_13 : decode cX4_prune 13 = .ok (.istore_n 2, 1) := by decide +kernel
theorem dX4_prune_14 : decode cX4_prune 14 = .ok (.iload_n 2, 1) := by decide +kernel
theorem dX4_prune_15 : decode cX4_prune 15 = .ok (.aload_n 0, 1) := by decide +kernel
theorem dX4_prune_16 : decode cX4_prune 16 = .ok (.getfield 9, 3) := by decide +kernel
theorem dX4_prune_19 : decode cX4_prune 19 = .ok (.if_icmp .ge 67, 3) := by decide +kernel
theorem dX4_prune_22 : decode cX4_prune 22 = .ok (.iconst 0, 1) := by decide +kernel
theorem dX4_prune_23 : decode cX4_prune 23 = .ok (.istore_n 3, 1) := by decide +kernel
theorem dX4_prune_24 : decode cX4_prune 24 = .ok (.iload_n 3, 1) := by decide +kernel
theorem dX4_prune_25 : decode cX4_prune 25 = .ok (.aload_n 0, 1) := by decide +kernel
theorem dX4_prune_26 : decode cX4_prune 26 = .ok (.getfield 9, 3) := by decide +kernel
theorem dX4_prune_29 : decode cX4_prune 29 = .ok (.if_icmp .ge 51, 3) := by decide +kernel
theorem dX4_prune_32 : decode cX4_prune 32 = .ok (.aload_n 0, 1) := by decide +kernel
theorem dX4_prune_33 : decode cX4_prune 33 = .ok (.iload_n 3, 1) := by decide +kernel
theorem dX4_prune_34 : decode cX4_prune 34 = .ok (.invokevirtual 59, 3) := by decide +kernel
theorem dX4_prune_37 : decode cX4_prune 37 = .ok (.aload_n 0, 1) := by decide +kernel
theorem dX4_prune_38 : decode cX4_prune 38 = .ok (.getfield 40, 3) := by decide +kernel
theorem dX4_prune_41 : decode cX4_prune 41 = .ok (.iand, 1) := by decide +kernel
theorem dX4_prune_42 : decode cX4_prune 42 = .ok (.istore 4, 2) := by decide +kernel
theorem dX4_prune_44 : decode cX4_prune 44 = .ok (.iload_n 1, 1) := by decide +kernel
theorem dX4_prune_45 : decode cX4_prune 45 = .ok (.iload_n 3, 1) := by decide +kernel
theorem dX4_prune_46 : decode cX4_prune 46 = .ok (.invokestatic 55, 3) := by decide +kernel
theorem dX4_prune_49 : decode cX4_prune 49 = .ok (.ifCond .ne 25, 3) := by decide +kernel
theorem dX4_prune_52 : decode cX4_prune 52 = .ok (.iload 4, 2) := by decide +kernel
theorem dX4_prune_54 : decode cX4_prune 54 = .ok (.invokestatic 73, 3) := by decide +kernel
theorem dX4_prune_57 : decode cX4_prune 57 = .ok (.iconst 1, 1) := by decide +kernel
theorem dX4_prune_58 : decode cX4_prune 58 = .ok (.if_icmp .ne 16, 3) := by decide +kernel
theorem dX4_prune_61 : decode cX4_prune 61 = .ok (.aload_n 0, 1) := by decide +kernel
theorem dX4_prune_62 : decode cX4_prune 62 = .ok (.dup, 1) := by decide +kernel
theorem dX4_prune_63 : decode cX4_prune 63 = .ok (.getfield 40, 3) := by decide +kernel
theorem dX4_prune_66 : decode cX4_prune 66 = .ok (.iload 4, 2) := by decide +kernel
theorem dX4_prune_68 : decode cX4_prune 68 = .ok (.iconst (-1), 1) := by decide +kernel
theorem dX4_prune_69 : decode cX4_prune 69 = .ok (.ixor, 1) := by decide +kernel
theorem dX4_prune_70 : decode cX4_prune 70 = .ok (.iand, 1) := by decide +kernel
theorem dX4_prune_71 : decode cX4_prune 71 = .ok (.putfield 40, 3) := by decide +kernel
theorem dX4_prune_74 : decode cX4_prune 74 = .ok (.iinc 3 1, 3) := by decide +kernel
theorem dX4_prune_77 : decode cX4_prune 77 = .ok (.goto (-53), 3) := by decide +kernel
theorem dX4_prune_80 : decode cX4_prune 80 = .ok (.iinc 2 1, 3) := by decide +kernel
theorem dX4_prune_83 : decode cX4_prune 83 = .ok (.goto (-69), 3) := by decide +kernel
theorem dX4_prune_86 : decode cX4_prune 86 = .ok (.return_, 1) := by decide +kernel
theorem dX5_init_0 : decode cX5_init 0 = .ok (.aload_n 0, 1) := by decide +kernel
theorem dX5_init_1 : decode cX5_init 1 = .ok (.invokespecial 3, 3) := by decide +kernel
theorem dX5_init_4 : decode cX5_init 4 = .ok (.aload_n 0, 1) := by decide +kernel
theorem dX5_init_5 : decode cX5_init 5 = .ok (.bipush 120, 2) := by decide +kernel
theorem dX5_init_7 : decode cX5_init 7 = .ok (.newarray .int, 2) := by decide +kernel
theorem dX5_init_9 : decode cX5_init 9 = .ok (.putfield 9, 3) := by decide +kernel
theorem dX5_init_12 : decode cX5_init 12 = .ok (.return_, 1) := by decide +kernel
theorem dX5_append_0 : decode cX5_append 0 = .ok (.aload_n 0, 1) := by decide +kernel
theorem dX5_append_1 : decode cX5_append 1 = .ok (.getfield 15, 3) := by decide +kernel
theorem dX5_append_4 : decode cX5_append 4 = .ok (.bipush 120, 2) := by decide +kernel
theorem dX5_append_6 : decode cX5_append 6 = .ok (.if_icmp .lt 5, 3) := by decide +kernel
theorem dX5_append_9 : decode cX5_append 9 = .ok (.iconst 0, 1) := by decide +kernel
theorem dX5_append_10 : decode cX5_append 10 = .ok (.ireturn, 1) := by decide +kernel
theorem dX5_append_11 : decode cX5_append 11 = .ok (.aload_n 0, 1) := by decide +kernel
theorem dX5_append_12 : decode cX5_append 12 = .ok (.getfield 9, 3) := by decide +kernel
theorem dX5_append_15 : decode cX5_append 15 = .ok (.aload_n 0, 1) := by decide +kernel
theorem dX5_append_16 : decode cX5_append 16 = .ok (.getfield 15, 3) := by decide +kernel
theorem dX5_append_19 : decode cX5_append 19 = .ok (.iload_n 1, 1) := by decide +kernel
theorem dX5_append_20 : decode cX5_append 20 = .ok (.iastore, 1) := by decide +kernel
theorem dX5_append_21 : decode cX5_append 21 = .ok (.aload_n 0, 1) := by decide +kernel
theorem dX5_append_22 : decode cX5_append 22 = .ok (.dup, 1) := by decide +kernel
theorem dX5_append_23 : decode cX5_append 23 = .ok (.getfield 15, 3) := by decide +kernel
theorem dX5_append_26 : decode cX5_append 26 = .ok (.iconst 1, 1) := by decide +kernel
theorem dX5_append_27 : decode cX5_append 27 = .ok (.iadd, 1) := by decide +kernel
theorem dX5_append_28 : decode cX5_append 28 = .ok (.putfield 15, 3) := by decide +kernel
theorem dX5_append_31 : decode cX5_append 31 = .ok (.iconst 1, 1) := by decide +kernel
theorem dX5_append_32 : decode cX5_append 32 = .ok (.ireturn, 1) := by decide +kernel
theorem dX5_empty_0 : decode cX5_empty 0 = .ok (.aload_n 0, 1) := by decide +kernel
theorem dX5_empty_1 : decode cX5_empty 1 = .ok (.getfield 15, 3) := by decide +kernel
theorem dX5_empty_4 : decode cX5_empty 4 = .ok (.istore_n 1, 1) := by decide +kernel
theorem dX5_empty_5 : decode cX5_empty 5 = .ok (.aload_n 0, 1) := by decide +kernel
theorem dX5_empty_6 : decode cX5_empty 6 = .ok (.iconst 0, 1) := by decide +kernel
theorem dX5_empty_7 : decode cX5_empty 7 = .ok (.putfield 15, 3) := by decide +kernel
theorem dX5_empty_10 : decode cX5_empty 10 = .ok (.iload_n 1, 1) := by decide +kernel
theorem dX5_empty_11 : decode cX5_empty 11 = .ok (.ireturn, 1) := by decide +kernel
theorem dX5_read_0 : decode cX5_read 0 = .ok (.aload_n 1, 1) := by decide +kernel
theorem dX5_read_1 : decode cX5_read 1 = .ok (.invokevirtual 19, 3) := by decide +kernel
theorem dX5_read_4 : decode cX5_read 4 = .ok (.aload_n 0, 1) := by decide +kernel
theorem dX5_read_5 : decode cX5_read 5 = .ok (.iconst 0, 1) := by decide +kernel
theorem dX5_read_6 : decode cX5_read 6 = .ok (.putfield 24, 3) := by decide +kernel
theorem dX5_read_9 : decode cX5_read 9 = .ok (.aload_n 0, 1) := by decide +kernel
theorem dX5_read_10 : decode cX5_read 10 = .ok (.iconst 0, 1) := by decide +kernel
theorem dX5_read_11 : decode cX5_read 11 = .ok (.putfield 28, 3) := by decide +kernel
theorem dX5_read_14 : decode cX5_read 14 = .ok (.aload_n 0, 1) := by decide +kernel
theorem dX5_read_15 : decode cX5_read 15 = .ok (.invokevirtual 31, 3) := by decide +kernel
theorem dX5_read_18 : decode cX5_read 18 = .ok (.iconst 0, 1) := by decide +kernel
theorem dX5_read_19 : decode cX5_read 19 = .ok (.istore_n 2, 1) := by decide +kernel
theorem dX5_read_20 : decode cX5_read 20 = .ok (.aload_n 0, 1) := by decide +kernel
theorem dX5_read_21 : decode cX5_read 21 = .ok (.getfield 34, 3) := by decide +kernel
theorem dX5_read_24 : decode cX5_read 24 = .ok (.ifCond .eq 36, 3) := by decide +kernel
theorem dX5_read_27 : decode cX5_read 27 = .ok (.iload_n 2, 1) := by decide +kernel
theorem dX5_read_28 : decode cX5_read 28 = .ok (.bipush 120, 2) := by decide +kernel
theorem dX5_read_30 : decode cX5_read 30 = .ok (.if_icmp .ge 30, 3) := by decide +kernel
theorem dX5_read_33 : decode cX5_read 33 = .ok (.aload_n 0, 1) := by decide +kernel
theorem dX5_read_34 : decode cX5_read 34 = .ok (.aload_n 1, 1) := by decide +kernel
theorem dX5_read_35 : decode cX5_read 35 = .ok (.iload_n 2, 1) := by decide +kernel
theorem dX5_read_36 : decode cX5_read 36 = .ok (.invokevirtual 37, 3) := by decide +kernel
theorem dX5_read_39 : decode cX5_read 39 = .ok (.ifCond .ne 11, 3) := by decide +kernel
theorem dX5_read_42 : decode cX5_read 42 = .ok (.bipush (-10), 2) := by decide +kernel
theorem dX5_read_44 : decode cX5_read 44 = .ok (.aload_n 0, 1) := by decide +kernel
theorem dX5_read_45 : decode cX5_read 45 = .ok (.getfield 41, 3) := by decide +kernel
theorem dX5_read_48 : decode cX5_read 48 = .ok (.isub, 1) := by decide +kernel
theorem dX5_read_49 : decode cX5_read 49 = .ok (.ireturn, 1) := by decide +kernel
theorem dX5_read_50 : decode cX5_read 50 = .ok (.iinc 2 1, 3) := by decide +kernel
theorem dX5_read_53 : decode cX5_read 53 = .ok (.aload_n 0, 1) := by decide +kernel
theorem dX5_read_54 : decode cX5_read 54 = .ok (.invokevirtual 31, 3) := by decide +kernel
theorem dX5_read_57 : decode cX5_read 57 = .ok (.goto (-37), 3) := by decide +kernel
theorem dX5_read_60 : decode cX5_read 60 = .ok (.iload_n 2, 1) := by decide +kernel
theorem dX5_read_61 : decode cX5_read 61 = .ok (.ireturn, 1) := by decide +kernel
theorem dX5_readItem_0 : decode cX5_readItem 0 = .ok (.iconst 0, 1) := by decide +kernel
theorem dX5_readItem_1 : decode cX5_readItem 1 = .ok (.istore_n 3, 1) := by decide +kernel
theorem dX5_readItem_2 : decode cX5_readItem 2 = .ok (.aload_n 0, 1) := by decide +kernel
theorem dX5_readItem_3 : decode cX5_readItem 3 = .ok (.ldc 44, 2) := by decide +kernel
theorem dX5_readItem_5 : decode cX5_readItem 5 = .ok (.invokevirtual 46, 3) := by decide +kernel
theorem dX5_readItem_8 : decode cX5_readItem 8 = .ok (.ifCond .eq 24, 3) := by decide +kernel
theorem dX5_readItem_11 : decode cX5_readItem 11 = .ok (.iload_n 2, 1) := by decide +kernel
theorem dX5_readItem_12 : decode cX5_readItem 12 = .ok (.ifCond .ne 15, 3) := by decide +kernel
theorem dX5_readItem_15 : decode cX5_readItem 15 = .ok (.aload_n 0, 1) := by decide +kernel
theorem dX5_readItem_16 : decode cX5_readItem 16 = .ok (.aload_n 1, 1) := by decide +kernel
theorem dX5_readItem_17 : decode cX5_readItem 17 = .ok (.invokevirtual 50, 3) := by decide +kernel
theorem dX5_readItem_20 : decode cX5_readItem 20 = .ok (.ifCond .eq 7, 3) := by decide +kernel
theorem dX5_readItem_23 : decode cX5_readItem 23 = .ok (.iconst 1, 1) := by decide +kernel
theorem dX5_readItem_24 : decode cX5_readItem 24 = .ok (.goto 4, 3) := by decide +kernel
theorem dX5_readItem_27 : decode cX5_readItem 27 = .ok (.iconst 0, 1) := by decide +kernel
theorem dX5_readItem_28 : decode cX5_readItem 28 = .ok (.istore_n 3, 1) := by decide +kernel
theorem dX5_readItem_29 : decode cX5_readItem 29 = .ok (.goto 86, 3) := by decide +kernel
theorem dX5_readItem_32 : decode cX5_readItem 32 = .ok (.aload_n 0, 1) := by decide +kernel
theorem dX5_readItem_33 : decode cX5_readItem 33 = .ok (.ldc 54, 2) := by decide +kernel
theorem dX5_readItem_35 : decode cX5_readItem 35 = .ok (.invokevirtual 46, 3) := by decide +kernel
theorem dX5_readItem_38 : decode cX5_readItem 38 = .ok (.ifCond .eq 27, 3) := by decide +kernel
theorem dX5_readItem_41 : decode cX5_readItem 41 = .ok (.aload_n 0, 1) := by decide +kernel
theorem dX5_readItem_42 : decode cX5_readItem 42 = .ok (.getfield 24, 3) := by decide +kernel
theorem dX5_readItem_45 : decode cX5_readItem 45 = .ok (.ifCond .ne 15, 3) := by decide +kernel
theorem dX5_readItem_48 : decode cX5_readItem 48 = .ok (.aload_n 0, 1) := by decide +kernel
theorem dX5_readItem_49 : decode cX5_readItem 49 = .ok (.aload_n 1, 1) := by decide +kernel
theorem dX5_readItem_50 : decode cX5_readItem 50 = .ok (.invokevirtual 56, 3) := by decide +kernel
theorem dX5_readItem_53 : decode cX5_readItem 53 = .ok (.ifCond .eq 7, 3) := by decide +kernel
theorem dX5_readItem_56 : decode cX5_readItem 56 = .ok (.iconst 1, 1) := by decide +kernel
theorem dX5_readItem_57 : decode cX5_readItem 57 = .ok (.goto 4, 3) := by decide +kernel
theorem dX5_readItem_60 : decode cX5_readItem 60 = .ok (.iconst 0, 1) := by decide +kernel
theorem dX5_readItem_61 : decode cX5_readItem 61 = .ok (.istore_n 3, 1) := by decide +kernel
theorem dX5_readItem_62 : decode cX5_readItem 62 = .ok (.goto 53, 3) := by decide +kernel
theorem dX5_readItem_65 : decode cX5_readItem 65 = .ok (.aload_n 0, 1) := by decide +kernel
theorem dX5_readItem_66 : decode cX5_readItem 66 = .ok (.ldc 59, 2) := by decide +kernel
theorem dX5_readItem_68 : decode cX5_readItem 68 = .ok (.invokevirtual 46, 3) := by decide +kernel
theorem dX5_readItem_71 : decode cX5_readItem 71 = .ok (.ifCond .eq 12, 3) := by decide +kernel
theorem dX5_readItem_74 : decode cX5_readItem 74 = .ok (.aload_n 0, 1) := by decide +kernel
theorem dX5_readItem_75 : decode cX5_readItem 75 = .ok (.aload_n 1, 1) := by decide +kernel
theorem dX5_readItem_76 : decode cX5_readItem 76 = .ok (.invokevirtual 61, 3) := by decide +kernel
theorem dX5_readItem_79 : decode cX5_readItem 79 = .ok (.istore_n 3, 1) := by decide +kernel
theorem dX5_readItem_80 : decode cX5_readItem 80 = .ok (.goto 35, 3) := by decide +kernel
theorem dX5_readItem_83 : decode cX5_readItem 83 = .ok (.aload_n 0, 1) := by decide +kernel
theorem dX5_readItem_84 : decode cX5_readItem 84 = .ok (.ldc 64, 2) := by decide +kernel
theorem dX5_readItem_86 : decode cX5_readItem 86 = .ok (.invokevirtual 46, 3) := by decide +kernel
theorem dX5_readItem_89 : decode cX5_readItem 89 = .ok (.ifCond .eq 26, 3) := by decide +kernel
theorem dX5_readItem_92 : decode cX5_readItem 92 = .ok (.aload_n 1, 1) := by decide +kernel
theorem dX5_readItem_93 : decode cX5_readItem 93 = .ok (.getfield 66, 3) := by decide +kernel
theorem dX5_readItem_96 : decode cX5_readItem 96 = .ok (.bipush 12, 2) := by decide +kernel
theorem dX5_readItem_98 : decode cX5_readItem 98 = .ok (.if_icmp .ge 15, 3) := by decide +kernel
theorem dX5_readItem_101 : decode cX5_readItem 101 = .ok (.aload_n 0, 1) := by decide +kernel
theorem dX5_readItem_102 : decode cX5_readItem 102 = .ok (.aload_n 1, 1) := by decide +kernel
theorem dX5_readItem_103 : decode cX5_readItem 103 = .ok (.invokevirtual 69, 3) := by decide +kernel
theorem dX5_readItem_106 : decode cX5_readItem 106 = .ok (.ifCond .eq 7, 3) := by decide +kernel
theorem dX5_readItem_109 : decode cX5_readItem 109 = .ok (.iconst 1, 1) := by decide +kernel
theorem dX5_readItem_110 : decode cX5_readItem 110 = .ok (.goto 4, 3) := by decide +kernel
theorem dX5_readItem_113 : decode cX5_readItem 113 = .ok (.iconst 0, 1) := by decide +kernel
theorem dX5_readItem_114 : decode cX5_readItem 114 = .ok (.istore_n 3, 1) := by decide +kernel
theorem dX5_readItem_115 : decode cX5_readItem 115 = .ok (.iload_n 3, 1) := by decide +kernel
theorem dX5_readItem_116 : decode cX5_readItem 116 = .ok (.ifCond .eq 14, 3) := by decide +kernel
theorem dX5_readItem_119 : decode cX5_readItem 119 = .ok (.aload_n 0, 1) := by decide +kernel
theorem dX5_readItem_120 : decode cX5_readItem 120 = .ok (.invokevirtual 72, 3) := by decide +kernel
theorem dX5_readItem_123 : decode cX5_readItem 123 = .ok (.ifCond .eq 7, 3) := by decide +kernel
theorem dX5_readItem_126 : decode cX5_readItem 126 = .ok (.iconst 1, 1) := by decide +kernel
theorem dX5_readItem_127 : decode cX5_readItem 127 = .ok (.goto 4, 3) := by decide +kernel
theorem dX5_readItem_130 : decode cX5_readItem 130 = .ok (.iconst 0, 1) := by decide +kernel
theorem dX5_readItem_131 : decode cX5_readItem 131 = .ok (.ireturn, 1) := by decide +kernel
theorem dX5_readNodes_0 : decode cX5_readNodes 0 = .ok (.aload_n 0, 1) := by decide +kernel
theorem dX5_readNodes_1 : decode cX5_readNodes 1 = .ok (.iconst 2, 1) := by decide +kernel
theorem dX5_readNodes_2 : decode cX5_readNodes 2 = .ok (.bipush 7, 2) := by decide +kernel
theorem dX5_readNodes_4 : decode cX5_readNodes 4 = .ok (.invokevirtual 76, 3) := by decide +kernel
theorem dX5_readNodes_7 : decode cX5_readNodes 7 = .ok (.ifCond .ne 5, 3) := by decide +kernel
theorem dX5_readNodes_10 : decode cX5_readNodes 10 = .ok (.iconst 0, 1) := by decide +kernel
theorem dX5_readNodes_11 : decode cX5_readNodes 11 = .ok (.ireturn, 1) := by decide +kernel
theorem dX5_readNodes_12 : decode cX5_readNodes 12 = .ok (.aload_n 1, 1) := by decide +kernel
theorem dX5_readNodes_13 : decode cX5_readNodes 13 = .ok (.aload_n 0, 1) := by decide +kernel
theorem dX5_readNodes_14 : decode cX5_readNodes 14 = .ok (.getfield 80, 3) := by decide +kernel
theorem dX5_readNodes_17 : decode cX5_readNodes 17 = .ok (.putfield 83, 3) := by decide +kernel
theorem dX5_readNodes_20 : decode cX5_readNodes 20 = .ok (.iconst 1, 1) := by decide +kernel
theorem dX5_readNodes_21 : decode cX5_readNodes 21 = .ok (.ireturn, 1) := by decide +kernel
theorem dX5_readSource_0 : decode cX5_readSource 0 = .ok (.aload_n 0, 1) := by decide +kernel
theorem dX5_readSource_1 : decode cX5_readSource 1 = .ok (.iconst 0, 1) := by decide +kernel
theorem dX5_readSource_2 : decode cX5_readSource 2 = .ok (.aload_n 1, 1) := by decide +kernel
theorem dX5_readSource_3 : decode cX5_readSource 3 = .ok (.getfield 83, 3) := by decide +kernel
theorem dX5_readSource_6 : decode cX5_readSource 6 = .ok (.iconst 1, 1) := by decide +kernel
theorem dX5_readSource_7 : decode cX5_readSource 7 = .ok (.isub, 1) := by decide +kernel
theorem dX5_readSource_8 : decode cX5_readSource 8 = .ok (.invokevirtual 76, 3) := by decide +kernel
theorem dX5_readSource_11 : decode cX5_readSource 11 = .ok (.ifCond .ne 5, 3) := by decide +kernel
theorem dX5_readSource_14 : decode cX5_readSource 14 = .ok (.iconst 0, 1) := by decide +kernel
theorem dX5_readSource_15 : decode cX5_readSource 15 = .ok (.ireturn, 1) := by decide +kernel
theorem dX5_readSource_16 : decode cX5_readSource 16 = .ok (.aload_n 1, 1) := by decide +kernel
theorem dX5_readSource_17 : decode cX5_readSource 17 = .ok (.aload_n 0, 1) := by decide +kernel
theorem dX5_readSource_18 : decode cX5_readSource 18 = .ok (.getfield 80, 3) := by decide +kernel
theorem dX5_readSource_21 : decode cX5_readSource 21 = .ok (.putfield 85, 3) := by decide +kernel
theorem dX5_readSource_24 : decode cX5_readSource 24 = .ok (.aload_n 0, 1) := by decide +kernel
theorem dX5_readSource_25 : decode cX5_readSource 25 = .ok (.iconst 1, 1) := by decide +kernel
theorem dX5_readSource_26 : decode cX5_readSource 26 = .ok (.putfield 24, 3) := by decide +kernel
theorem dX5_readSource_29 : decode cX5_readSource 29 = .ok (.iconst 1, 1) := by decide +kernel
theorem dX5_readSource_30 : decode cX5_readSource 30 = .ok (.ireturn, 1) := by decide +kernel
theorem dX5_readLimit_0 : decode cX5_readLimit 0 = .ok (.aload_n 0, 1) := by decide +kernel
theorem dX5_readLimit_1 : decode cX5_readLimit 1 = .ok (.iconst 0, 1) := by decide +kernel
theorem dX5_readLimit_2 : decode cX5_readLimit 2 = .ok (.bipush 9, 2) := by decide +kernel
theorem dX5_readLimit_4 : decode cX5_readLimit 4 = .ok (.invokevirtual 76, 3) := by decide +kernel
theorem dX5_readLimit_7 : decode cX5_readLimit 7 = .ok (.ifCond .ne 5, 3) := by decide +kernel
theorem dX5_readLimit_10 : decode cX5_readLimit 10 = .ok (.iconst 0, 1) := by decide +kernel
theorem dX5_readLimit_11 : decode cX5_readLimit 11 = .ok (.ireturn, 1) := by decide +kernel
theorem dX5_readLimit_12 : decode cX5_readLimit 12 = .ok (.aload_n 1, 1) := by decide +kernel
theorem dX5_readLimit_13 : decode cX5_readLimit 13 = .ok (.aload_n 0, 1) := by decide +kernel
theorem dX5_readLimit_14 : decode cX5_readLimit 14 = .ok (.getfield 80, 3) := by decide +kernel
theorem dX5_readLimit_17 : decode cX5_readLimit 17 = .ok (.putfield 87, 3) := by decide +kernel
theorem dX5_readLimit_20 : decode cX5_readLimit 20 = .ok (.iconst 1, 1) := by decide +kernel
theorem dX5_readLimit_21 : decode cX5_readLimit 21 = .ok (.ireturn, 1) := by decide +kernel
theorem dX5_readLink_0 : decode cX5_readLink 0 = .ok (.aload_n 0, 1) := by decide +kernel
theorem dX5_readLink_1 : decode cX5_readLink 1 = .ok (.iconst 0, 1) := by decide +kernel
theorem dX5_readLink_2 : decode cX5_readLink 2 = .ok (.aload_n 1, 1) := by decide +kernel
theorem dX5_readLink_3 : decode cX5_readLink 3 = .ok (.getfield 83, 3) := by decide +kernel
theorem dX5_readLink_6 : decode cX5_readLink 6 = .ok (.iconst 1, 1) := by decide +kernel
theorem dX5_readLink_7 : decode cX5_readLink 7 = .ok (.isub, 1) := by decide +kernel
theorem dX5_readLink_8 : decode cX5_readLink 8 = .ok (.invokevirtual 76, 3) := by decide +kernel
theorem dX5_readLink_11 : decode cX5_readLink 11 = .ok (.ifCond .ne 5, 3) := by decide +kernel
theorem dX5_readLink_14 : decode cX5_readLink 14 = .ok (.iconst 0, 1) := by decide +kernel
theorem dX5_readLink_15 : decode cX5_readLink 15 = .ok (.ireturn, 1) := by decide +kernel
theorem dX5_readLink_16 : decode cX5_readLink 16 = .ok (.aload_n 0, 1) := by decide +kernel
theorem dX5_readLink_17 : decode cX5_readLink 17 = .ok (.getfield 80, 3) := by decide +kernel
theorem dX5_readLink_20 : decode cX5_readLink 20 = .ok (.istore_n 2, 1) := by decide +kernel
theorem dX5_readLink_21 : decode cX5_readLink 21 = .ok (.aload_n 0, 1) := by decide +kernel
theorem dX5_readLink_22 : decode cX5_readLink 22 = .ok (.iconst 0, 1) := by decide +kernel
theorem dX5_readLink_23 : decode cX5_readLink 23 = .ok (.aload_n 1, 1) := by decide +kernel
theorem dX5_readLink_24 : decode cX5_readLink 24 = .ok (.getfield 83, 3) := by decide +kernel
theorem dX5_readLink_27 : decode cX5_readLink 27 = .ok (.iconst 1, 1) := by decide +kernel
theorem dX5_readLink_28 : decode cX5_readLink 28 = .ok (.isub, 1) := by decide +kernel
theorem dX5_readLink_29 : decode cX5_readLink 29 = .ok (.invokevirtual 76, 3) := by decide +kernel
theorem dX5_readLink_32 : decode cX5_readLink 32 = .ok (.ifCond .eq 23, 3) := by decide +kernel
theorem dX5_readLink_35 : decode cX5_readLink 35 = .ok (.aload_n 0, 1) := by decide +kernel
theorem dX5_readLink_36 : decode cX5_readLink 36 = .ok (.getfield 80, 3) := by decide +kernel
theorem dX5_readLink_39 : decode cX5_readLink 39 = .ok (.iload_n 2, 1) := by decide +kernel
theorem dX5_readLink_40 : decode cX5_readLink 40 = .ok (.if_icmp .eq 15, 3) := by decide +kernel
theorem dX5_readLink_43 : decode cX5_readLink 43 = .ok (.aload_n 1, 1) := by decide +kernel
theorem dX5_readLink_44 : decode cX5_readLink 44 = .ok (.iload_n 2, 1) := by decide +kernel
theorem dX5_readLink_45 : decode cX5_readLink 45 = .ok (.aload_n 0, 1) := by decide +kernel
theorem dX5_readLink_46 : decode cX5_readLink 46 = .ok (.getfield 80, 3) := by decide +kernel
theorem dX5_readLink_49 : decode cX5_readLink 49 = .ok (.invokevirtual 89, 3) := by decide +kernel
theorem dX5_readLink_52 : decode cX5_readLink 52 = .ok (.ifCond .eq 5, 3) := by decide +kernel
theorem dX5_readLink_55 : decode cX5_readLink 55 = .ok (.iconst 0, 1) := by decide +kernel
theorem dX5_readLink_56 : decode cX5_readLink 56 = .ok (.ireturn, 1) := by decide +kernel
theorem dX5_readLink_57 : decode cX5_readLink 57 = .ok (.aload_n 0, 1) := by decide +kernel
theorem dX5_readLink_58 : decode cX5_readLink 58 = .ok (.getfield 80, 3) := by decide +kernel
theorem dX5_readLink_61 : decode cX5_readLink 61 = .ok (.istore_n 3, 1) := by decide +kernel
theorem dX5_readLink_62 : decode cX5_readLink 62 = .ok (.aload_n 0, 1) := by decide +kernel
theorem dX5_readLink_63 : decode cX5_readLink 63 = .ok (.iconst 1, 1) := by decide +kernel
theorem dX5_readLink_64 : decode cX5_readLink 64 = .ok (.bipush 9, 2) := by decide +kernel
theorem dX5_readLink_66 : decode cX5_readLink 66 = .ok (.invokevirtual 76, 3) := by decide +kernel
theorem dX5_readLink_69 : decode cX5_readLink 69 = .ok (.ifCond .ne 5, 3) := by decide +kernel
theorem dX5_readLink_72 : decode cX5_readLink 72 = .ok (.iconst 0, 1) := by decide +kernel
theorem dX5_readLink_73 : decode cX5_readLink 73 = .ok (.ireturn, 1) := by decide +kernel
theorem dX5_readLink_74 : decode cX5_readLink 74 = .ok (.aload_n 1, 1) := by decide +kernel
theorem dX5_readLink_75 : decode cX5_readLink 75 = .ok (.iload_n 2, 1) := by decide +kernel
theorem dX5_readLink_76 : decode cX5_readLink 76 = .ok (.iload_n 3, 1) := by decide +kernel
theorem dX5_readLink_77 : decode cX5_readLink 77 = .ok (.aload_n 0, 1) := by decide +kernel
theorem dX5_readLink_78 : decode cX5_readLink 78 = .ok (.getfield 80, 3) := by decide +kernel
theorem dX5_readLink_81 : decode cX5_readLink 81 = .ok (.invokevirtual 92, 3) := by decide +kernel
theorem dX5_readLink_84 : decode cX5_readLink 84 = .ok (.iconst 1, 1) := by decide +kernel
theorem dX5_readLink_85 : decode cX5_readLink 85 = .ok (.ireturn, 1) := by decide +kernel
theorem dX5_takeSemicolon_0 : decode cX5_takeSemicolon 0 = .ok (.aload_n 0, 1) := by decide +kernel
theorem dX5_takeSemicolon_1 : decode cX5_takeSemicolon 1 = .ok (.invokevirtual 31, 3) := by decide +kernel
theorem dX5_takeSemicolon_4 : decode cX5_takeSemicolon 4 = .ok (.aload_n 0, 1) := by decide +kernel
theorem dX5_takeSemicolon_5 : decode cX5_takeSemicolon 5 = .ok (.getfield 34, 3) := by decide +kernel
theorem dX5_takeSemicolon_8 : decode cX5_takeSemicolon 8 = .ok (.iconst 3, 1) := by decide +kernel
theorem dX5_takeSemicolon_9 : decode cX5_takeSemicolon 9 = .ok (.if_icmp .ne 7, 3) := by decide +kernel
theorem dX5_takeSemicolon_12 : decode cX5_takeSemicolon 12 = .ok (.iconst 1, 1) := by decide +kernel
theorem dX5_takeSemicolon_13 : decode cX5_takeSemicolon 13 = .ok (.goto 4, 3) := by decide +kernel
theorem dX5_takeSemicolon_16 : decode cX5_takeSemicolon 16 = .ok (.iconst 0, 1) := by decide +kernel
theorem dX5_takeSemicolon_17 : decode cX5_takeSemicolon 17 = .ok (.ireturn, 1) := by decide +kernel
theorem dX5_takeFigure_0 : decode cX5_takeFigure 0 = .ok (.aload_n 0, 1) := by decide +kernel
theorem dX5_takeFigure_1 : decode cX5_takeFigure 1 = .ok (.invokevirtual 31, 3) := by decide +kernel
theorem dX5_takeFigure_4 : decode cX5_takeFigure 4 = .ok (.aload_n 0, 1) := by decide +kernel
theorem dX5_takeFigure_5 : decode cX5_takeFigure 5 = .ok (.getfield 34, 3) := by decide +kernel
theorem dX5_takeFigure_8 : decode cX5_takeFigure 8 = .ok (.iconst 2, 1) := by decide +kernel
theorem dX5_takeFigure_9 : decode cX5_takeFigure 9 = .ok (.if_icmp .ne 16, 3) := by decide +kernel
theorem dX5_takeFigure_12 : decode cX5_takeFigure 12 = .ok (.aload_n 0, 1) := by decide +kernel
theorem dX5_takeFigure_13 : decode cX5_takeFigure 13 = .ok (.getfield 28, 3) := by decide +kernel
theorem dX5_takeFigure_16 : decode cX5_takeFigure 16 = .ok (.aload_n 0, 1) := by decide +kernel
theorem dX5_takeFigure_17 : decode cX5_takeFigure 17 = .ok (.getfield 41, 3) := by decide +kernel
theorem dX5_takeFigure_20 : decode cX5_takeFigure 20 = .ok (.isub, 1) := by decide +kernel
theorem dX5_takeFigure_21 : decode cX5_takeFigure 21 = .ok (.iconst 1, 1) := by decide +kernel
theorem dX5_takeFigure_22 : decode cX5_takeFigure 22 = .ok (.if_icmp .eq 5, 3) := by decide +kernel
theorem dX5_takeFigure_25 : decode cX5_takeFigure 25 = .ok (.iconst 0, 1) := by decide +kernel
theorem dX5_takeFigure_26 : decode cX5_takeFigure 26 = .ok (.ireturn, 1) := by decide +kernel
theorem dX5_takeFigure_27 : decode cX5_takeFigure 27 = .ok (.aload_n 0, 1) := by decide +kernel
theorem dX5_takeFigure_28 : decode cX5_takeFigure 28 = .ok (.aload_n 0, 1) := by decide +kernel
theorem dX5_takeFigure_29 : decode cX5_takeFigure 29 = .ok (.getfield 9, 3) := by decide +kernel
theorem dX5_takeFigure_32 : decode cX5_takeFigure 32 = .ok (.aload_n 0, 1) := by decide +kernel
theorem dX5_takeFigure_33 : decode cX5_takeFigure 33 = .ok (.getfield 41, 3) := by decide +kernel
theorem dX5_takeFigure_36 : decode cX5_takeFigure 36 = .ok (.iaload, 1) := by decide +kernel
theorem dX5_takeFigure_37 : decode cX5_takeFigure 37 = .ok (.bipush 48, 2) := by decide +kernel
theorem dX5_takeFigure_39 : decode cX5_takeFigure 39 = .ok (.isub, 1) := by decide +kernel
theorem dX5_takeFigure_40 : decode cX5_takeFigure 40 = .ok (.putfield 80, 3) := by decide +kernel
theorem dX5_takeFigure_43 : decode cX5_takeFigure 43 = .ok (.aload_n 0, 1) := by decide +kernel
theorem dX5_takeFigure_44 : decode cX5_takeFigure 44 = .ok (.getfield 80, 3) := by decide +kernel
theorem dX5_takeFigure_47 : decode cX5_takeFigure 47 = .ok (.iload_n 1, 1) := by decide +kernel
theorem dX5_takeFigure_48 : decode cX5_takeFigure 48 = .ok (.if_icmp .lt 15, 3) := by decide +kernel
theorem dX5_takeFigure_51 : decode cX5_takeFigure 51 = .ok (.aload_n 0, 1) := by decide +kernel
theorem dX5_takeFigure_52 : decode cX5_takeFigure 52 = .ok (.getfield 80, 3) := by decide +kernel
theorem dX5_takeFigure_55 : decode cX5_takeFigure 55 = .ok (.iload_n 2, 1) := by decide +kernel
theorem dX5_takeFigure_56 : decode cX5_takeFigure 56 = .ok (.if_icmp .gt 7, 3) := by decide +kernel
theorem dX5_takeFigure_59 : decode cX5_takeFigure 59 = .ok (.iconst 1, 1) := by decide +kernel
theorem dX5_takeFigure_60 : decode cX5_takeFigure 60 = .ok (.goto 4, 3) := by decide +kernel
theorem dX5_takeFigure_63 : decode cX5_takeFigure 63 = .ok (.iconst 0, 1) := by decide +kernel
theorem dX5_takeFigure_64 : decode cX5_takeFigure 64 = .ok (.ireturn, 1) := by decide +kernel
theorem dX5_takeToken_0 : decode cX5_takeToken 0 = .ok (.aload_n 0, 1) := by decide +kernel
theorem dX5_takeToken_1 : decode cX5_takeToken 1 = .ok (.aload_n 0, 1) := by decide +kernel
theorem dX5_takeToken_2 : decode cX5_takeToken 2 = .ok (.getfield 28, 3) := by decide +kernel
theorem dX5_takeToken_5 : decode cX5_takeToken 5 = .ok (.putfield 41, 3) := by decide +kernel
theorem dX5_takeToken_8 : decode cX5_takeToken 8 = .ok (.aload_n 0, 1) := by decide +kernel
theorem dX5_takeToken_9 : decode cX5_takeToken 9 = .ok (.getfield 41, 3) := by decide +kernel
theorem dX5_takeToken_12 : decode cX5_takeToken 12 = .ok (.aload_n 0, 1) := by decide +kernel
theorem dX5_takeToken_13 : decode cX5_takeToken 13 = .ok (.getfield 15, 3) := by decide +kernel
theorem dX5_takeToken_16 : decode cX5_takeToken 16 = .ok (.if_icmp .ge 30, 3) := by decide +kernel
theorem dX5_takeToken_19 : decode cX5_takeToken 19 = .ok (.aload_n 0, 1) := by decide +kernel
theorem dX5_takeToken_20 : decode cX5_takeToken 20 = .ok (.getfield 9, 3) := by decide +kernel
theorem dX5_takeToken_23 : decode cX5_takeToken 23 = .ok (.aload_n 0, 1) := by decide +kernel
theorem dX5_takeToken_24 : decode cX5_takeToken 24 = .ok (.getfield 41, 3) := by decide +kernel
theorem dX5_takeToken_27 : decode cX5_takeToken 27 = .ok (.iaload, 1) := by decide +kernel
theorem dX5_takeToken_28 : decode cX5_takeToken 28 = .ok (.bipush 32, 2) := by decide +kernel
theorem dX5_takeToken_30 : decode cX5_takeToken 30 = .ok (.if_icmp .ne 16, 3) := by decide +kernel
theorem dX5_takeToken_33 : decode cX5_takeToken 33 = .ok (.aload_n 0, 1) := by decide +kernel
theorem dX5_takeToken_34 : decode cX5_takeToken 34 = .ok (.dup, 1) := by decide +kernel
theorem dX5_takeToken_35 : decode cX5_takeToken 35 = .ok (.getfield 41, 3) := by decide +kernel
theorem dX5_takeToken_38 : decode cX5_takeToken 38 = .ok (.iconst 1, 1) := by decide +kernel
theorem dX5_takeToken_39 : decode cX5_takeToken 39 = .ok (.iadd, 1) := by decide +kernel
theorem dX5_takeToken_40 : decode cX5_takeToken 40 = .ok (.putfield 41, 3) := by decide +kernel
theorem dX5_takeToken_43 : decode cX5_takeToken 43 = .ok (.goto (-35), 3) := by decide +kernel
theorem dX5_takeToken_46 : decode cX5_takeToken 46 = .ok (.aload_n 0, 1) := by decide +kernel
theorem dX5_takeToken_47 : decode cX5_takeToken 47 = .ok (.aload_n 0, 1) := by decide +kernel
theorem dX5_takeToken_48 : decode cX5_takeToken 48 = .ok (.getfield 41, 3) := by decide +kernel
theorem dX5_takeToken_51 : decode cX5_takeToken 51 = .ok (.putfield 28, 3) := by decide +kernel
theorem dX5_takeToken_54 : decode cX5_takeToken 54 = .ok (.aload_n 0, 1) := by decide +kernel
theorem dX5_takeToken_55 : decode cX5_takeToken 55 = .ok (.getfield 41, 3) := by decide +kernel
theorem dX5_takeToken_58 : decode cX5_takeToken 58 = .ok (.aload_n 0, 1) := by decide +kernel
theorem dX5_takeToken_59 : decode cX5_takeToken 59 = .ok (.getfield 15, 3) := by decide +kernel
theorem dX5_takeToken_62 : decode cX5_takeToken 62 = .ok (.if_icmp .lt 11, 3) := by decide +kernel
theorem dX5_takeToken_65 : decode cX5_takeToken 65 = .ok (.aload_n 0, 1) := by decide +kernel
theorem dX5_takeToken_66 : decode cX5_takeToken 66 = .ok (.iconst 0, 1) := by decide +kernel
theorem dX5_takeToken_67 : decode cX5_takeToken 67 = .ok (.putfield 34, 3) := by decide +kernel
theorem dX5_takeToken_70 : decode cX5_takeToken 70 = .ok (.goto 144, 3) := by decide +kernel
theorem dX5_takeToken_73 : decode cX5_takeToken 73 = .ok (.aload_n 0, 1) := by decide +kernel
theorem dX5_takeToken_74 : decode cX5_takeToken 74 = .ok (.aload_n 0, 1) := by decide +kernel
theorem dX5_takeToken_75 : decode cX5_takeToken 75 = .ok (.getfield 41, 3) := by decide +kernel
theorem dX5_takeToken_78 : decode cX5_takeToken 78 = .ok (.invokevirtual 96, 3) := by decide +kernel
theorem dX5_takeToken_81 : decode cX5_takeToken 81 = .ok (.ifCond .eq 46, 3) := by decide +kernel
theorem dX5_takeToken_84 : decode cX5_takeToken 84 = .ok (.aload_n 0, 1) := by decide +kernel
theorem dX5_takeToken_85 : decode cX5_takeToken 85 = .ok (.getfield 28, 3) := by decide +kernel
theorem dX5_takeToken_88 : decode cX5_takeToken 88 = .ok (.aload_n 0, 1) := by decide +kernel
theorem dX5_takeToken_89 : decode cX5_takeToken 89 = .ok (.getfield 15, 3) := by decide +kernel
theorem dX5_takeToken_92 : decode cX5_takeToken 92 = .ok (.if_icmp .ge 27, 3) := by decide +kernel
theorem dX5_takeToken_95 : decode cX5_takeToken 95 = .ok (.aload_n 0, 1) := by decide +kernel
theorem dX5_takeToken_96 : decode cX5_takeToken 96 = .ok (.aload_n 0, 1) := by decide +kernel
theorem dX5_takeToken_97 : decode cX5_takeToken 97 = .ok (.getfield 28, 3) := by decide +kernel
theorem dX5_takeToken_100 : decode cX5_takeToken 100 = .ok (.invokevirtual 96, 3) := by decide +kernel
theorem dX5_takeToken_103 : decode cX5_takeToken 103 = .ok (.ifCond .eq 16, 3) := by decide +kernel
theorem dX5_takeToken_106 : decode cX5_takeToken 106 = .ok (.aload_n 0, 1) := by decide +kernel
theorem dX5_takeToken_107 : decode cX5_takeToken 107 = .ok (.dup, 1) := by decide +kernel
theorem dX5_takeToken_108 : decode cX5_takeToken 108 = .ok (.getfield 28, 3) := by decide +kernel
theorem dX5_takeToken_111 : decode cX5_takeToken 111 = .ok (.iconst 1, 1) := by decide +kernel
theorem dX5_takeToken_112 : decode cX5_takeToken 112 = .ok (.iadd, 1) := by decide +kernel
theorem dX5_takeToken_113 : decode cX5_takeToken 113 = .ok (.putfield 28, 3) := by decide +kernel
theorem dX5_takeToken_116 : decode cX5_takeToken 116 = .ok (.goto (-32), 3) := by decide +kernel
theorem dX5_takeToken_119 : decode cX5_takeToken 119 = .ok (.aload_n 0, 1) := by decide +kernel
theorem dX5_takeToken_120 : decode cX5_takeToken 120 = .ok (.iconst 2, 1) := by decide +kernel
theorem dX5_takeToken_121 : decode cX5_takeToken 121 = .ok (.putfield 34, 3) := by decide +kernel
theorem dX5_takeToken_124 : decode cX5_takeToken 124 = .ok (.goto 90, 3) := by decide +kernel
theorem dX5_takeToken_127 : decode cX5_takeToken 127 = .ok (.aload_n 0, 1) := by decide +kernel
theorem dX5_takeToken_128 : decode cX5_takeToken 128 = .ok (.aload_n 0, 1) := by decide +kernel
theorem dX5_takeToken_129 : decode cX5_takeToken 129 = .ok (.getfield 41, 3) := by decide +kernel
theorem dX5_takeToken_132 : decode cX5_takeToken 132 = .ok (.invokevirtual 100, 3) := by decide +kernel
theorem dX5_takeToken_135 : decode cX5_takeToken 135 = .ok (.ifCond .eq 46, 3) := by decide +kernel
theorem dX5_takeToken_138 : decode cX5_takeToken 138 = .ok (.aload_n 0, 1) := by decide +kernel
theorem dX5_takeToken_139 : decode cX5_takeToken 139 = .ok (.getfield 28, 3) := by decide +kernel
theorem dX5_takeToken_142 : decode cX5_takeToken 142 = .ok (.aload_n 0, 1) := by decide +kernel
theorem dX5_takeToken_143 : decode cX5_takeToken 143 = .ok (.getfield 15, 3) := by decide +kernel
theorem dX5_takeToken_146 : decode cX5_takeToken 146 = .ok (.if_icmp .ge 27, 3) := by decide +kernel
theorem dX5_takeToken_149 : decode cX5_takeToken 149 = .ok (.aload_n 0, 1) := by decide +kernel
theorem dX5_takeToken_150 : decode cX5_takeToken 150 = .ok (.aload_n 0, 1) := by decide +kernel
theorem dX5_takeToken_151 : decode cX5_takeToken 151 = .ok (.getfield 28, 3) := by decide +kernel
theorem dX5_takeToken_154 : decode cX5_takeToken 154 = .ok (.invokevirtual 100, 3) := by decide +kernel
theorem dX5_takeToken_157 : decode cX5_takeToken 157 = .ok (.ifCond .eq 16, 3) := by decide +kernel
theorem dX5_takeToken_160 : decode cX5_takeToken 160 = .ok (.aload_n 0, 1) := by decide +kernel
theorem dX5_takeToken_161 : decode cX5_takeToken 161 = .ok (.dup, 1) := by decide +kernel
theorem dX5_takeToken_162 : decode cX5_takeToken 162 = .ok (.getfield 28, 3) := by decide +kernel
theorem dX5_takeToken_165 : decode cX5_takeToken 165 = .ok (.iconst 1, 1) := by decide +kernel
theorem dX5_takeToken_166 : decode cX5_takeToken 166 = .ok (.iadd, 1) := by decide +kernel
theorem dX5_takeToken_167 : decode cX5_takeToken 167 = .ok (.putfield 28, 3) := by decide +kernel
theorem dX5_takeToken_170 : decode cX5_takeToken 170 = .ok (.goto (-32), 3) := by decide +kernel
theorem dX5_takeToken_173 : decode cX5_takeToken 173 = .ok (.aload_n 0, 1) := by decide +kernel
theorem dX5_takeToken_174 : decode cX5_takeToken 174 = .ok (.iconst 1, 1) := by decide +kernel
theorem dX5_takeToken_175 : decode cX5_takeToken 175 = .ok (.putfield 34, 3) := by decide +kernel
theorem dX5_takeToken_178 : decode cX5_takeToken 178 = .ok (.goto 36, 3) := by decide +kernel
theorem dX5_takeToken_181 : decode cX5_takeToken 181 = .ok (.aload_n 0, 1) := by decide +kernel
theorem dX5_takeToken_182 : decode cX5_takeToken 182 = .ok (.dup, 1) := by decide +kernel
theorem dX5_takeToken_183 : decode cX5_takeToken 183 = .ok (.getfield 28, 3) := by decide +kernel
theorem dX5_takeToken_186 : decode cX5_takeToken 186 = .ok (.iconst 1, 1) := by decide +kernel
theorem dX5_takeToken_187 : decode cX5_takeToken 187 = .ok (.iadd, 1) := by decide +kernel
theorem dX5_takeToken_188 : decode cX5_takeToken 188 = .ok (.putfield 28, 3) := by decide +kernel
theorem dX5_takeToken_191 : decode cX5_takeToken 191 = .ok (.aload_n 0, 1) := by decide +kernel
theorem dX5_takeToken_192 : decode cX5_takeToken 192 = .ok (.aload_n 0, 1) := by decide +kernel
theorem dX5_takeToken_193 : decode cX5_takeToken 193 = .ok (.getfield 9, 3) := by decide +kernel
theorem dX5_takeToken_196 : decode cX5_takeToken 196 = .ok (.aload_n 0, 1) := by decide +kernel
theorem dX5_takeToken_197 : decode cX5_takeToken 197 = .ok (.getfield 41, 3) := by decide +kernel
theorem dX5_takeToken_200 : decode cX5_takeToken 200 = .ok (.iaload, 1) := by decide +kernel
theorem dX5_takeToken_201 : decode cX5_takeToken 201 = .ok (.bipush 59, 2) := by decide +kernel
theorem dX5_takeToken_203 : decode cX5_takeToken 203 = .ok (.if_icmp .ne 7, 3) := by decide +kernel
theorem dX5_takeToken_206 : decode cX5_takeToken 206 = .ok (.iconst 3, 1) := by decide +kernel
theorem dX5_takeToken_207 : decode cX5_takeToken 207 = .ok (.goto 4, 3) := by decide +kernel
theorem dX5_takeToken_210 : decode cX5_takeToken 210 = .ok (.iconst 4, 1) := by decide +kernel
theorem dX5_takeToken_211 : decode cX5_takeToken 211 = .ok (.putfield 34, 3) := by decide +kernel
theorem dX5_takeToken_214 : decode cX5_takeToken 214 = .ok (.return_, 1) := by decide +kernel
theorem dX5_isFigure_0 : decode cX5_isFigure 0 = .ok (.aload_n 0, 1) := by decide +kernel
theorem dX5_isFigure_1 : decode cX5_isFigure 1 = .ok (.getfield 9, 3) := by decide +kernel
theorem dX5_isFigure_4 : decode cX5_isFigure 4 = .ok (.iload_n 1, 1) := by decide +kernel
theorem dX5_isFigure_5 : decode cX5_isFigure 5 = .ok (.iaload, 1) := by decide +kernel
theorem dX5_isFigure_6 : decode cX5_isFigure 6 = .ok (.bipush 48, 2) := by decide +kernel
theorem dX5_isFigure_8 : decode cX5_isFigure 8 = .ok (.if_icmp .lt 18, 3) := by decide +kernel
theorem dX5_isFigure_11 : decode cX5_isFigure 11 = .ok (.aload_n 0, 1) := by decide +kernel
theorem dX5_isFigure_12 : decode cX5_isFigure 12 = .ok (.getfield 9, 3) := by decide +kernel
theorem dX5_isFigure_15 : decode cX5_isFigure 15 = .ok (.iload_n 1, 1) := by decide +kernel
theorem dX5_isFigure_16 : decode cX5_isFigure 16 = .ok (.iaload, 1) := by decide +kernel
theorem dX5_isFigure_17 : decode cX5_isFigure 17 = .ok (.bipush 57, 2) := by decide +kernel
theorem dX5_isFigure_19 : decode cX5_isFigure 19 = .ok (.if_icmp .gt 7, 3) := by decide +kernel
theorem dX5_isFigure_22 : decode cX5_isFigure 22 = .ok (.iconst 1, 1) := by decide +kernel
theorem dX5_isFigure_23 : decode cX5_isFigure 23 = .ok (.goto 4, 3) := by decide +kernel
theorem dX5_isFigure_26 : decode cX5_isFigure 26 = .ok (.iconst 0, 1) := by decide +kernel
theorem dX5_isFigure_27 : decode cX5_isFigure 27 = .ok (.ireturn, 1) := by decide +kernel
theorem dX5_isSmallLetter_0 : decode cX5_isSmallLetter 0 = .ok (.aload_n 0, 1) := by decide +kernel
theorem dX5_isSmallLetter_1 : decode cX5_isSmallLetter 1 = .ok (.getfield 9, 3) := by decide +kernel
theorem dX5_isSmallLetter_4 : decode cX5_isSmallLetter 4 = .ok (.iload_n 1, 1) := by decide +kernel
theorem dX5_isSmallLetter_5 : decode cX5_isSmallLetter 5 = .ok (.iaload, 1) := by decide +kernel
theorem dX5_isSmallLetter_6 : decode cX5_isSmallLetter 6 = .ok (.bipush 97, 2) := by decide +kernel
theorem dX5_isSmallLetter_8 : decode cX5_isSmallLetter 8 = .ok (.if_icmp .lt 18, 3) := by decide +kernel
theorem dX5_isSmallLetter_11 : decode cX5_isSmallLetter 11 = .ok (.aload_n 0, 1) := by decide +kernel
theorem dX5_isSmallLetter_12 : decode cX5_isSmallLetter 12 = .ok (.getfield 9, 3) := by decide +kernel
theorem dX5_isSmallLetter_15 : decode cX5_isSmallLetter 15 = .ok (.iload_n 1, 1) := by decide +kernel
theorem dX5_isSmallLetter_16 : decode cX5_isSmallLetter 16 = .ok (.iaload, 1) := by decide +kernel
theorem dX5_isSmallLetter_17 : decode cX5_isSmallLetter 17 = .ok (.bipush 122, 2) := by decide +kernel
theorem dX5_isSmallLetter_19 : decode cX5_isSmallLetter 19 = .ok (.if_icmp .gt 7, 3) := by decide +kernel
theorem dX5_isSmallLetter_22 : decode cX5_isSmallLetter 22 = .ok (.iconst 1, 1) := by decide +kernel
theorem dX5_isSmallLetter_23 : decode cX5_isSmallLetter 23 = .ok (.goto 4, 3) := by decide +kernel
theorem dX5_isSmallLetter_26 : decode cX5_isSmallLetter 26 = .ok (.iconst 0, 1) := by decide +kernel
theorem dX5_isSmallLetter_27 : decode cX5_isSmallLetter 27 = .ok (.ireturn, 1) := by decide +kernel
theorem dX5_isWord_0 : decode cX5_isWord 0 = .ok (.aload_n 0, 1) := by decide +kernel
theorem dX5_isWord_1 : decode cX5_isWord 1 = .ok (.getfield 34, 3) := by decide +kernel
theorem dX5_isWord_4 : decode cX5_isWord 4 = .ok (.iconst 1, 1) := by decide +kernel
theorem dX5_isWord_5 : decode cX5_isWord 5 = .ok (.if_icmp .ne 19, 3) := by decide +kernel
theorem dX5_isWord_8 : decode cX5_isWord 8 = .ok (.aload_n 0, 1) := by decide +kernel
theorem dX5_isWord_9 : decode cX5_isWord 9 = .ok (.getfield 28, 3) := by decide +kernel
theorem dX5_isWord_12 : decode cX5_isWord 12 = .ok (.aload_n 0, 1) := by decide +kernel
theorem dX5_isWord_13 : decode cX5_isWord 13 = .ok (.getfield 41, 3) := by decide +kernel
theorem dX5_isWord_16 : decode cX5_isWord 16 = .ok (.isub, 1) := by decide +kernel
theorem dX5_isWord_17 : decode cX5_isWord 17 = .ok (.aload_n 1, 1) := by decide +kernel
theorem dX5_isWord_18 : decode cX5_isWord 18 = .ok (.invokevirtual 103, 3) := by decide +kernel
theorem dX5_isWord_21 : decode cX5_isWord 21 = .ok (.if_icmp .eq 5, 3) := by decide +kernel
theorem dX5_isWord_24 : decode cX5_isWord 24 = .ok (.iconst 0, 1) := by decide +kernel
theorem dX5_isWord_25 : decode cX5_isWord 25 = .ok (.ireturn, 1) := by decide +kernel
theorem dX5_isWord_26 : decode cX5_isWord 26 = .ok (.iconst 0, 1) := by decide +kernel
theorem dX5_isWord_27 : decode cX5_isWord 27 = .ok (.istore_n 2, 1) := by decide +kernel
theorem dX5_isWord_28 : decode cX5_isWord 28 = .ok (.iload_n 2, 1) := by decide +kernel
theorem dX5_isWord_29 : decode cX5_isWord 29 = .ok (.aload_n 1, 1) := by decide +kernel
theorem dX5_isWord_30 : decode cX5_isWord 30 = .ok (.invokevirtual 103, 3) := by decide +kernel
theorem dX5_isWord_33 : decode cX5_isWord 33 = .ok (.if_icmp .ge 30, 3) := by decide +kernel
theorem dX5_isWord_36 : decode cX5_isWord 36 = .ok (.aload_n 0, 1) := by decide +kernel
theorem dX5_isWord_37 : decode cX5_isWord 37 = .ok (.getfield 9, 3) := by decide +kernel
theorem dX5_isWord_40 : decode cX5_isWord 40 = .ok (.aload_n 0, 1) := by decide +kernel
theorem dX5_isWord_41 : decode cX5_isWord 41 = .ok (.getfield 41, 3) := by decide +kernel
theorem dX5_isWord_44 : decode cX5_isWord 44 = .ok (.iload_n 2, 1) := by decide +kernel
theorem dX5_isWord_45 : decode cX5_isWord 45 = .ok (.iadd, 1) := by decide +kernel
theorem dX5_isWord_46 : decode cX5_isWord 46 = .ok (.iaload, 1) := by decide +kernel
theorem dX5_isWord_47 : decode cX5_isWord 47 = .ok (.aload_n 1, 1) := by decide +kernel
theorem dX5_isWord_48 : decode cX5_isWord 48 = .ok (.iload_n 2, 1) := by decide +kernel
theorem dX5_isWord_49 : decode cX5_isWord 49 = .ok (.invokevirtual 108, 3) := by decide +kernel
theorem dX5_isWord_52 : decode cX5_isWord 52 = .ok (.if_icmp .eq 5, 3) := by decide +kernel
theorem dX5_isWord_55 : decode cX5_isWord 55 = .ok (.iconst 0, 1) := by decide +kernel
theorem dX5_isWord_56 : decode cX5_isWord 56 = .ok (.ireturn, 1) := by decide +kernel
theorem dX5_isWord_57 : decode cX5_isWord 57 = .ok (.iinc 2 1, 3) := by decide +kernel
theorem dX5_isWord_60 : decode cX5_isWord 60 = .ok (.goto (-32), 3) := by decide +kernel
theorem dX5_isWord_63 : decode cX5_isWord 63 = .ok (.iconst 1, 1) := by decide +kernel
theorem dX5_isWord_64 : decode cX5_isWord 64 = .ok (.ireturn, 1) := by decide +kernel
theorem dX6_init_0 : decode cX6_init 0 = .ok (.aload_n 0, 1) := by decide +kernel
theorem dX6_init_1 : decode cX6_init 1 = .ok (.invokespecial 3, 3) := by decide +kernel
theorem dX6_init_4 : decode cX6_init 4 = .ok (.aload_n 0, 1) := by decide +kernel
theorem dX6_init_5 : decode cX6_init 5 = .ok (.bipush 7, 2) := by decide +kernel
theorem dX6_init_7 : decode cX6_init 7 = .ok (.newarray .int, 2) := by decide +kernel
theorem dX6_init_9 : decode cX6_init 9 = .ok (.putfield 9, 3) := by decide +kernel
theorem dX6_init_12 : decode cX6_init 12 = .ok (.return_, 1) := by decide +kernel
theorem dX6_find_0 : decode cX6_find 0 = .ok (.aload_n 0, 1) := by decide +kernel
theorem dX6_find_1 : decode cX6_find 1 = .ok (.aload_n 1, 1) := by decide +kernel
theorem dX6_find_2 : decode cX6_find 2 = .ok (.aload_n 1, 1) := by decide +kernel
theorem dX6_find_3 : decode cX6_find 3 = .ok (.invokevirtual 15, 3) := by decide +kernel
theorem dX6_find_6 : decode cX6_find 6 = .ok (.aload_n 1, 1) := by decide +kernel
theorem dX6_find_7 : decode cX6_find 7 = .ok (.iload_n 2, 1) := by decide +kernel
theorem dX6_find_8 : decode cX6_find 8 = .ok (.invokevirtual 21, 3) := by decide +kernel
theorem dX6_find_11 : decode cX6_find 11 = .ok (.invokevirtual 25, 3) := by decide +kernel
theorem dX6_find_14 : decode cX6_find 14 = .ok (.return_, 1) := by decide +kernel
theorem dX6_findBy_0 : decode cX6_findBy 0 = .ok (.aload_n 0, 1) := by decide +kernel
theorem dX6_findBy_1 : decode cX6_findBy 1 = .ok (.iload_n 2, 1) := by decide +kernel
theorem dX6_findBy_2 : decode cX6_findBy 2 = .ok (.putfield 29, 3) := by decide +kernel
theorem dX6_findBy_5 : decode cX6_findBy 5 = .ok (.aload_n 0, 1) := by decide +kernel
theorem dX6_findBy_6 : decode cX6_findBy 6 = .ok (.getfield 9, 3) := by decide +kernel
theorem dX6_findBy_9 : decode cX6_findBy 9 = .ok (.ldc 33, 2) := by decide +kernel
theorem dX6_findBy_11 : decode cX6_findBy 11 = .ok (.invokestatic 34, 3) := by decide +kernel
theorem dX6_findBy_14 : decode cX6_findBy 14 = .ok (.iconst 0, 1) := by decide +kernel
theorem dX6_findBy_15 : decode cX6_findBy 15 = .ok (.istore 4, 2) := by decide +kernel
theorem dX6_findBy_17 : decode cX6_findBy 17 = .ok (.iload 4, 2) := by decide +kernel
theorem dX6_findBy_19 : decode cX6_findBy 19 = .ok (.aload_n 1, 1) := by decide +kernel
theorem dX6_findBy_20 : decode cX6_findBy 20 = .ok (.getfield 40, 3) := by decide +kernel
theorem dX6_findBy_23 : decode cX6_findBy 23 = .ok (.if_icmp .ge 26, 3) := by decide +kernel
theorem dX6_findBy_26 : decode cX6_findBy 26 = .ok (.iload_n 3, 1) := by decide +kernel
theorem dX6_findBy_27 : decode cX6_findBy 27 = .ok (.iload 4, 2) := by decide +kernel
theorem dX6_findBy_29 : decode cX6_findBy 29 = .ok (.invokestatic 43, 3) := by decide +kernel
theorem dX6_findBy_32 : decode cX6_findBy 32 = .ok (.ifCond .eq 11, 3) := by decide +kernel
theorem dX6_findBy_35 : decode cX6_findBy 35 = .ok (.aload_n 0, 1) := by decide +kernel
theorem dX6_findBy_36 : decode cX6_findBy 36 = .ok (.getfield 9, 3) := by decide +kernel
theorem dX6_findBy_39 : decode cX6_findBy 39 = .ok (.iload 4, 2) := by decide +kernel
theorem dX6_findBy_41 : decode cX6_findBy 41 = .ok (.iconst 0, 1) := by decide +kernel
theorem dX6_findBy_42 : decode cX6_findBy 42 = .ok (.iastore, 1) := by decide +kernel
theorem dX6_findBy_43 : decode cX6_findBy 43 = .ok (.iinc 4 1, 3) := by decide +kernel
theorem dX6_findBy_46 : decode cX6_findBy 46 = .ok (.goto (-29), 3) := by decide +kernel
theorem dX6_findBy_49 : decode cX6_findBy 49 = .ok (.iconst 1, 1) := by decide +kernel
theorem dX6_findBy_50 : decode cX6_findBy 50 = .ok (.istore 4, 2) := by decide +kernel
theorem dX6_findBy_52 : decode cX6_findBy 52 = .ok (.iload 4, 2) := by decide +kernel
theorem dX6_findBy_54 : decode cX6_findBy 54 = .ok (.aload_n 1, 1) := by decide +kernel
theorem dX6_findBy_55 : decode cX6_findBy 55 = .ok (.getfield 40, 3) := by decide +kernel
theorem dX6_findBy_58 : decode cX6_findBy 58 = .ok (.if_icmp .ge 63, 3) := by decide +kernel
theorem dX6_findBy_61 : decode cX6_findBy 61 = .ok (.iconst 0, 1) := by decide +kernel
theorem dX6_findBy_62 : decode cX6_findBy 62 = .ok (.istore 5, 2) := by decide +kernel
theorem dX6_findBy_64 : decode cX6_findBy 64 = .ok (.iload 5, 2) := by decide +kernel
theorem dX6_findBy_66 : decode cX6_findBy 66 = .ok (.aload_n 1, 1) := by decide +kernel
theorem dX6_findBy_67 : decode cX6_findBy 67 = .ok (.getfield 47, 3) := by decide +kernel
theorem dX6_findBy_70 : decode cX6_findBy 70 = .ok (.if_icmp .ge 45, 3) := by decide +kernel
theorem dX6_findBy_73 : decode cX6_findBy 73 = .ok (.aload_n 0, 1) := by decide +kernel
theorem dX6_findBy_74 : decode cX6_findBy 74 = .ok (.getfield 29, 3) := by decide +kernel
theorem dX6_findBy_77 : decode cX6_findBy 77 = .ok (.iload 5, 2) := by decide +kernel
theorem dX6_findBy_79 : decode cX6_findBy 79 = .ok (.invokestatic 43, 3) := by decide +kernel
theorem dX6_findBy_82 : decode cX6_findBy 82 = .ok (.ifCond .eq 27, 3) := by decide +kernel
theorem dX6_findBy_85 : decode cX6_findBy 85 = .ok (.aload_n 0, 1) := by decide +kernel
theorem dX6_findBy_86 : decode cX6_findBy 86 = .ok (.aload_n 1, 1) := by decide +kernel
theorem dX6_findBy_87 : decode cX6_findBy 87 = .ok (.getfield 50, 3) := by decide +kernel
theorem dX6_findBy_90 : decode cX6_findBy 90 = .ok (.iload 5, 2) := by decide +kernel
theorem dX6_findBy_92 : decode cX6_findBy 92 = .ok (.iaload, 1) := by decide +kernel
theorem dX6_findBy_93 : decode cX6_findBy 93 = .ok (.aload_n 1, 1) := by decide +kernel
theorem dX6_findBy_94 : decode cX6_findBy 94 = .ok (.getfield 53, 3) := by decide +kernel
theorem dX6_findBy_97 : decode cX6_findBy 97 = .ok (.iload 5, 2) := by decide +kernel
theorem dX6_findBy_99 : decode cX6_findBy 99 = .ok (.iaload, 1) := by decide +kernel
theorem dX6_findBy_100 : decode cX6_findBy 100 = .ok (.aload_n 1, 1) := by decide +kernel
theorem dX6_findBy_101 : decode cX6_findBy 101 = .ok (.iload 5, 2) := by decide +kernel
theorem dX6_findBy_103 : decode cX6_findBy 103 = .ok (.invokestatic 56, 3) := by decide +kernel
theorem dX6_findBy_106 : decode cX6_findBy 106 = .ok (.invokevirtual 60, 3) := by decide +kernel
theorem dX6_findBy_109 : decode cX6_findBy 109 = .ok (.iinc 5 1, 3) := by decide +kernel
theorem dX6_findBy_112 : decode cX6_findBy 112 = .ok (.goto (-48), 3) := by decide +kernel
theorem dX6_findBy_115 : decode cX6_findBy 115 = .ok (.iinc 4 1, 3) := by decide +kernel
theorem dX6_findBy_118 : decode cX6_findBy 118 = .ok (.goto (-66), 3) := by decide +kernel
theorem dX6_findBy_121 : decode cX6_findBy 121 = .ok (.return_, 1) := by decide +kernel
theorem dX6_shorten_0 : decode cX6_shorten 0 = .ok (.aload_n 0, 1) := by decide +kernel
theorem dX6_shorten_1 : decode cX6_shorten 1 = .ok (.getfield 9, 3) := by decide +kernel
theorem dX6_shorten_4 : decode cX6_shorten 4 = .ok (.iload_n 1, 1) := by decide +kernel
theorem dX6_shorten_5 : decode cX6_shorten 5 = .ok (.aload_n 0, 1) := by decide +kernel
theorem dX6_shorten_6 : decode cX6_shorten 6 = .ok (.getfield 9, 3) := by decide +kernel
theorem dX6_shorten_9 : decode cX6_shorten 9 = .ok (.iload_n 1, 1) := by decide +kernel
theorem dX6_shorten_10 : decode cX6_shorten 10 = .ok (.iaload, 1) := by decide +kernel
theorem dX6_shorten_11 : decode cX6_shorten 11 = .ok (.aload_n 0, 1) := by decide +kernel
theorem dX6_shorten_12 : decode cX6_shorten 12 = .ok (.getfield 9, 3) := by decide +kernel
theorem dX6_shorten_15 : decode cX6_shorten 15 = .ok (.iload_n 2, 1) := by decide +kernel
theorem dX6_shorten_16 : decode cX6_shorten 16 = .ok (.iaload, 1) := by decide +kernel
theorem dX6_shorten_17 : decode cX6_shorten 17 = .ok (.iload_n 3, 1) := by decide +kernel
theorem dX6_shorten_18 : decode cX6_shorten 18 = .ok (.iadd, 1) := by decide +kernel
theorem dX6_shorten_19 : decode cX6_shorten 19 = .ok (.invokestatic 64, 3) := by decide +kernel
theorem dX6_shorten_22 : decode cX6_shorten 22 = .ok (.iastore, 1) := by decide +kernel
theorem dX6_shorten_23 : decode cX6_shorten 23 = .ok (.aload_n 0, 1) := by decide +kernel
theorem dX6_shorten_24 : decode cX6_shorten 24 = .ok (.getfield 9, 3) := by decide +kernel
theorem dX6_shorten_27 : decode cX6_shorten 27 = .ok (.iload_n 2, 1) := by decide +kernel
theorem dX6_shorten_28 : decode cX6_shorten 28 = .ok (.aload_n 0, 1) := by decide +kernel
theorem dX6_shorten_29 : decode cX6_shorten 29 = .ok (.getfield 9, 3) := by decide +kernel
theorem dX6_shorten_32 : decode cX6_shorten 32 = .ok (.iload_n 2, 1) := by decide +kernel
theorem dX6_shorten_33 : decode cX6_shorten 33 = .ok (.iaload, 1) := by decide +kernel
theorem dX6_shorten_34 : decode cX6_shorten 34 = .ok (.aload_n 0, 1) := by decide +kernel
theorem dX6_shorten_35 : decode cX6_shorten 35 = .ok (.getfield 9, 3) := by decide +kernel
theorem dX6_shorten_38 : decode cX6_shorten 38 = .ok (.iload_n 1, 1) := by decide +kernel
theorem dX6_shorten_39 : decode cX6_shorten 39 = .ok (.iaload, 1) := by decide +kernel
theorem dX6_shorten_40 : decode cX6_shorten 40 = .ok (.iload_n 3, 1) := by decide +kernel
theorem dX6_shorten_41 : decode cX6_shorten 41 = .ok (.iadd, 1) := by decide +kernel
theorem dX6_shorten_42 : decode cX6_shorten 42 = .ok (.invokestatic 64, 3) := by decide +kernel
theorem dX6_shorten_45 : decode cX6_shorten 45 = .ok (.iastore, 1) := by decide +kernel
theorem dX6_shorten_46 : decode cX6_shorten 46 = .ok (.return_, 1) := by decide +kernel
theorem dX6_weightOf_0 : decode cX6_weightOf 0 = .ok (.aload_n 0, 1) := by decide +kernel
theorem dX6_weightOf_1 : decode cX6_weightOf 1 = .ok (.getfield 70, 3) := by decide +kernel
theorem dX6_weightOf_4 : decode cX6_weightOf 4 = .ok (.iload_n 1, 1) := by decide +kernel
theorem dX6_weightOf_5 : decode cX6_weightOf 5 = .ok (.iaload, 1) := by decide +kernel
theorem dX6_weightOf_6 : decode cX6_weightOf 6 = .ok (.bipush 16, 2) := by decide +kernel
theorem dX6_weightOf_8 : decode cX6_weightOf 8 = .ok (.imul, 1) := by decide +kernel
theorem dX6_weightOf_9 : decode cX6_weightOf 9 = .ok (.iconst 1, 1) := by decide +kernel
theorem dX6_weightOf_10 : decode cX6_weightOf 10 = .ok (.iadd, 1) := by decide +kernel
theorem dX6_weightOf_11 : decode cX6_weightOf 11 = .ok (.ireturn, 1) := by decide +kernel
theorem dX6_reach_0 : decode cX6_reach 0 = .ok (.aload_n 0, 1) := by decide +kernel
theorem dX6_reach_1 : decode cX6_reach 1 = .ok (.getfield 9, 3) := by decide +kernel
theorem dX6_reach_4 : decode cX6_reach 4 = .ok (.iload_n 1, 1) := by decide +kernel
theorem dX6_reach_5 : decode cX6_reach 5 = .ok (.iaload, 1) := by decide +kernel
theorem dX6_reach_6 : decode cX6_reach 6 = .ok (.ldc 33, 2) := by decide +kernel
theorem dX6_reach_8 : decode cX6_reach 8 = .ok (.if_icmp .ge 7, 3) := by decide +kernel
theorem dX6_reach_11 : decode cX6_reach 11 = .ok (.iconst 1, 1) := by decide +kernel
theorem dX6_reach_12 : decode cX6_reach 12 = .ok (.goto 4, 3) := by decide +kernel
theorem dX6_reach_15 : decode cX6_reach 15 = .ok (.iconst 0, 1) := by decide +kernel
theorem dX6_reach_16 : decode cX6_reach 16 = .ok (.ireturn, 1) := by decide +kernel
theorem dX6_costFrom_0 : decode cX6_costFrom 0 = .ok (.aload_n 0, 1) := by decide +kernel
theorem dX6_costFrom_1 : decode cX6_costFrom 1 = .ok (.iload_n 1, 1) := by decide +kernel
theorem dX6_costFrom_2 : decode cX6_costFrom 2 = .ok (.invokevirtual 73, 3) := by decide +kernel
theorem dX6_costFrom_5 : decode cX6_costFrom 5 = .ok (.ifCond .eq 15, 3) := by decide +kernel
theorem dX6_costFrom_8 : decode cX6_costFrom 8 = .ok (.aload_n 0, 1) := by decide +kernel
theorem dX6_costFrom_9 : decode cX6_costFrom 9 = .ok (.getfield 9, 3) := by decide +kernel
theorem dX6_costFrom_12 : decode cX6_costFrom 12 = .ok (.iload_n 1, 1) := by decide +kernel
theorem dX6_costFrom_13 : decode cX6_costFrom 13 = .ok (.iaload, 1) := by decide +kernel
theorem dX6_costFrom_14 : decode cX6_costFrom 14 = .ok (.bipush 16, 2) := by decide +kernel
theorem dX6_costFrom_16 : decode cX6_costFrom 16 = .ok (.idiv, 1) := by decide +kernel
theorem dX6_costFrom_17 : decode cX6_costFrom 17 = .ok (.goto 5, 3) := by decide +kernel
theorem dX6_costFrom_20 : decode cX6_costFrom 20 = .ok (.bipush (-9), 2) := by decide +kernel
theorem dX6_costFrom_22 : decode cX6_costFrom 22 = .ok (.ireturn, 1) := by decide +kernel
theorem dX6_stepsFrom_0 : decode cX6_stepsFrom 0 = .ok (.aload_n 0, 1) := by decide +kernel
theorem dX6_stepsFrom_1 : decode cX6_stepsFrom 1 = .ok (.iload_n 1, 1) := by decide +kernel
theorem dX6_stepsFrom_2 : decode cX6_stepsFrom 2 = .ok (.invokevirtual 73, 3) := by decide +kernel
theorem dX6_stepsFrom_5 : decode cX6_stepsFrom 5 = .ok (.ifCond .eq 15, 3) := by decide +kernel
theorem dX6_stepsFrom_8 : decode cX6_stepsFrom 8 = .ok (.aload_n 0, 1) := by decide +kernel
theorem dX6_stepsFrom_9 : decode cX6_stepsFrom 9 = .ok (.getfield 9, 3) := by decide +kernel
theorem dX6_stepsFrom_12 : decode cX6_stepsFrom 12 = .ok (.iload_n 1, 1) := by decide +kernel
theorem dX6_stepsFrom_13 : decode cX6_stepsFrom 13 = .ok (.iaload, 1) := by decide +kernel
theorem dX6_stepsFrom_14 : decode cX6_stepsFrom 14 = .ok (.bipush 16, 2) := by decide +kernel
theorem dX6_stepsFrom_16 : decode cX6_stepsFrom 16 = .ok (.irem, 1) := by decide +kernel
theorem dX6_stepsFrom_17 : decode cX6_stepsFrom 17 = .ok (.goto 5, 3) := by decide +kernel
theorem dX6_stepsFrom_20 : decode cX6_stepsFrom 20 = .ok (.bipush (-9), 2) := by decide +kernel
theorem dX6_stepsFrom_22 : decode cX6_stepsFrom 22 = .ok (.ireturn, 1) := by decide +kernel
theorem dX6_firstStep_0 : decode cX6_firstStep 0 = .ok (.bipush (-9), 2) := by decide +kernel
theorem dX6_firstStep_2 : decode cX6_firstStep 2 = .ok (.istore_n 3, 1) := by decide +kernel
theorem dX6_firstStep_3 : decode cX6_firstStep 3 = .ok (.bipush 7, 2) := by decide +kernel
theorem dX6_firstStep_5 : decode cX6_firstStep 5 = .ok (.istore 4, 2) := by decide +kernel
theorem dX6_firstStep_7 : decode cX6_firstStep 7 = .ok (.iconst 0, 1) := by decide +kernel
theorem dX6_firstStep_8 : decode cX6_firstStep 8 = .ok (.istore 5, 2) := by decide +kernel
theorem dX6_firstStep_10 : decode cX6_firstStep 10 = .ok (.iload 5, 2) := by decide +kernel
theorem dX6_firstStep_12 : decode cX6_firstStep 12 = .ok (.aload_n 1, 1) := by decide +kernel
theorem dX6_firstStep_13 : decode cX6_firstStep 13 = .ok (.getfield 47, 3) := by decide +kernel
theorem dX6_firstStep_16 : decode cX6_firstStep 16 = .ok (.if_icmp .ge 80, 3) := by decide +kernel
theorem dX6_firstStep_19 : decode cX6_firstStep 19 = .ok (.aload_n 0, 1) := by decide +kernel
theorem dX6_firstStep_20 : decode cX6_firstStep 20 = .ok (.getfield 29, 3) := by decide +kernel
theorem dX6_firstStep_23 : decode cX6_firstStep 23 = .ok (.iload 5, 2) := by decide +kernel
theorem dX6_firstStep_25 : decode cX6_firstStep 25 = .ok (.invokestatic 43, 3) := by decide +kernel
theorem dX6_firstStep_28 : decode cX6_firstStep 28 = .ok (.ifCond .eq 62, 3) := by decide +kernel
theorem dX6_firstStep_31 : decode cX6_firstStep 31 = .ok (.aload_n 1, 1) := by decide +kernel
theorem dX6_firstStep_32 : decode cX6_firstStep 32 = .ok (.iload 5, 2) := by decide +kernel
theorem dX6_firstStep_34 : decode cX6_firstStep 34 = .ok (.invokevirtual 77, 3) := by decide +kernel
theorem dX6_firstStep_37 : decode cX6_firstStep 37 = .ok (.iload_n 2, 1) := by decide +kernel
theorem dX6_firstStep_38 : decode cX6_firstStep 38 = .ok (.invokestatic 43, 3) := by decide +kernel
theorem dX6_firstStep_41 : decode cX6_firstStep 41 = .ok (.ifCond .eq 49, 3) := by decide +kernel
theorem dX6_firstStep_44 : decode cX6_firstStep 44 = .ok (.aload_n 1, 1) := by decide +kernel
theorem dX6_firstStep_45 : decode cX6_firstStep 45 = .ok (.iload 5, 2) := by decide +kernel
theorem dX6_firstStep_47 : decode cX6_firstStep 47 = .ok (.iload_n 2, 1) := by decide +kernel
theorem dX6_firstStep_48 : decode cX6_firstStep 48 = .ok (.invokestatic 80, 3) := by decide +kernel
theorem dX6_firstStep_51 : decode cX6_firstStep 51 = .ok (.istore 6, 2) := by decide +kernel
theorem dX6_firstStep_53 : decode cX6_firstStep 53 = .ok (.iload 6, 2) := by decide +kernel
theorem dX6_firstStep_55 : decode cX6_firstStep 55 = .ok (.iload 4, 2) := by decide +kernel
theorem dX6_firstStep_57 : decode cX6_firstStep 57 = .ok (.if_icmp .ge 33, 3) := by decide +kernel
theorem dX6_firstStep_60 : decode cX6_firstStep 60 = .ok (.aload_n 0, 1) := by decide +kernel
theorem dX6_firstStep_61 : decode cX6_firstStep 61 = .ok (.getfield 9, 3) := by decide +kernel
theorem dX6_firstStep_64 : decode cX6_firstStep 64 = .ok (.iload 6, 2) := by decide +kernel
theorem dX6_firstStep_66 : decode cX6_firstStep 66 = .ok (.iaload, 1) := by decide +kernel
theorem dX6_firstStep_67 : decode cX6_firstStep 67 = .ok (.aload_n 1, 1) := by decide +kernel
theorem dX6_firstStep_68 : decode cX6_firstStep 68 = .ok (.iload 5, 2) := by decide +kernel
theorem dX6_firstStep_70 : decode cX6_firstStep 70 = .ok (.invokestatic 56, 3) := by decide +kernel
theorem dX6_firstStep_73 : decode cX6_firstStep 73 = .ok (.iadd, 1) := by decide +kernel
theorem dX6_firstStep_74 : decode cX6_firstStep 74 = .ok (.aload_n 0, 1) := by decide +kernel
theorem dX6_firstStep_75 : decode cX6_firstStep 75 = .ok (.getfield 9, 3) := by decide +kernel
theorem dX6_firstStep_78 : decode cX6_firstStep 78 = .ok (.iload_n 2, 1) := by decide +kernel
theorem dX6_firstStep_79 : decode cX6_firstStep 79 = .ok (.iaload, 1) := by decide +kernel
theorem dX6_firstStep_80 : decode cX6_firstStep 80 = .ok (.if_icmp .ne 10, 3) := by decide +kernel
theorem dX6_firstStep_83 : decode cX6_firstStep 83 = .ok (.iload 5, 2) := by decide +kernel
theorem dX6_firstStep_85 : decode cX6_firstStep 85 = .ok (.istore_n 3, 1) := by decide +kernel
theorem dX6_firstStep_86 : decode cX6_firstStep 86 = .ok (.iload 6, 2) := by decide +kernel
theorem dX6_firstStep_88 : decode cX6_firstStep 88 = .ok (.istore 4, 2) := by decide +kernel
theorem dX6_firstStep_90 : decode cX6_firstStep 90 = .ok (.iinc 5 1, 3) := by decide +kernel
theorem dX6_firstStep_93 : decode cX6_firstStep 93 = .ok (.goto (-83), 3) := by decide +kernel
theorem dX6_firstStep_96 : decode cX6_firstStep 96 = .ok (.iload_n 3, 1) := by decide +kernel
theorem dX6_firstStep_97 : decode cX6_firstStep 97 = .ok (.ireturn, 1) := by decide +kernel
theorem dX6_nextNode_0 : decode cX6_nextNode 0 = .ok (.aload_n 0, 1) := by decide +kernel
theorem dX6_nextNode_1 : decode cX6_nextNode 1 = .ok (.getfield 50, 3) := by decide +kernel
theorem dX6_nextNode_4 : decode cX6_nextNode 4 = .ok (.iload_n 1, 1) := by decide +kernel
theorem dX6_nextNode_5 : decode cX6_nextNode 5 = .ok (.iaload, 1) := by decide +kernel
theorem dX6_nextNode_6 : decode cX6_nextNode 6 = .ok (.iload_n 2, 1) := by decide +kernel
theorem dX6_nextNode_7 : decode cX6_nextNode 7 = .ok (.if_icmp .ne 12, 3) := by decide +kernel
theorem dX6_nextNode_10 : decode cX6_nextNode 10 = .ok (.aload_n 0, 1) := by decide +kernel
theorem dX6_nextNode_11 : decode cX6_nextNode 11 = .ok (.getfield 53, 3) := by decide +kernel
theorem dX6_nextNode_14 : decode cX6_nextNode 14 = .ok (.iload_n 1, 1) := by decide +kernel
theorem dX6_nextNode_15 : decode cX6_nextNode 15 = .ok (.iaload, 1) := by decide +kernel
theorem dX6_nextNode_16 : decode cX6_nextNode 16 = .ok (.goto 9, 3) := by decide +kernel
theorem dX6_nextNode_19 : decode cX6_nextNode 19 = .ok (.aload_n 0, 1) := by decide +kernel
theorem dX6_nextNode_20 : decode cX6_nextNode 20 = .ok (.getfield 50, 3) := by decide +kernel
theorem dX6_nextNode_23 : decode cX6_nextNode 23 = .ok (.iload_n 1, 1) := by decide +kernel
theorem dX6_nextNode_24 : decode cX6_nextNode 24 = .ok (.iaload, 1) := by decide +kernel
theorem dX6_nextNode_25 : decode cX6_nextNode 25 = .ok (.ireturn, 1) := by decide +kernel
theorem dX6_stepAt_0 : decode cX6_stepAt 0 = .ok (.iload_n 3, 1) := by decide +kernel
theorem dX6_stepAt_1 : decode cX6_stepAt 1 = .ok (.bipush 7, 2) := by decide +kernel
theorem dX6_stepAt_3 : decode cX6_stepAt 3 = .ok (.if_icmp .lt 6, 3) := by decide +kernel
theorem dX6_stepAt_6 : decode cX6_stepAt 6 = .ok (.bipush (-9), 2) := by decide +kernel
theorem dX6_stepAt_8 : decode cX6_stepAt 8 = .ok (.ireturn, 1) := by decide +kernel
theorem dX6_stepAt_9 : decode cX6_stepAt 9 = .ok (.iload_n 2, 1) := by decide +kernel
theorem dX6_stepAt_10 : decode cX6_stepAt 10 = .ok (.istore 4, 2) := by decide +kernel
theorem dX6_stepAt_12 : decode cX6_stepAt 12 = .ok (.aload_n 0, 1) := by decide +kernel
theorem dX6_stepAt_13 : decode cX6_stepAt 13 = .ok (.aload_n 1, 1) := by decide +kernel
theorem dX6_stepAt_14 : decode cX6_stepAt 14 = .ok (.iload 4, 2) := by decide +kernel
theorem dX6_stepAt_16 : decode cX6_stepAt 16 = .ok (.invokevirtual 84, 3) := by decide +kernel
theorem dX6_stepAt_19 : decode cX6_stepAt 19 = .ok (.istore 5, 2) := by decide +kernel
theorem dX6_stepAt_21 : decode cX6_stepAt 21 = .ok (.iconst 0, 1) := by decide +kernel
theorem dX6_stepAt_22 : decode cX6_stepAt 22 = .ok (.istore 6, 2) := by decide +kernel
theorem dX6_stepAt_24 : decode cX6_stepAt 24 = .ok (.iload 6, 2) := by decide +kernel
theorem dX6_stepAt_26 : decode cX6_stepAt 26 = .ok (.iload_n 3, 1) := by decide +kernel
theorem dX6_stepAt_27 : decode cX6_stepAt 27 = .ok (.if_icmp .ge 33, 3) := by decide +kernel
theorem dX6_stepAt_30 : decode cX6_stepAt 30 = .ok (.iload 5, 2) := by decide +kernel
theorem dX6_stepAt_32 : decode cX6_stepAt 32 = .ok (.ifCond .lt 28, 3) := by decide +kernel
theorem dX6_stepAt_35 : decode cX6_stepAt 35 = .ok (.aload_n 1, 1) := by decide +kernel
theorem dX6_stepAt_36 : decode cX6_stepAt 36 = .ok (.iload 5, 2) := by decide +kernel
theorem dX6_stepAt_38 : decode cX6_stepAt 38 = .ok (.iload 4, 2) := by decide +kernel
theorem dX6_stepAt_40 : decode cX6_stepAt 40 = .ok (.invokestatic 80, 3) := by decide +kernel
theorem dX6_stepAt_43 : decode cX6_stepAt 43 = .ok (.istore 4, 2) := by decide +kernel
theorem dX6_stepAt_45 : decode cX6_stepAt 45 = .ok (.aload_n 0, 1) := by decide +kernel
theorem dX6_stepAt_46 : decode cX6_stepAt 46 = .ok (.aload_n 1, 1) := by decide +kernel
theorem dX6_stepAt_47 : decode cX6_stepAt 47 = .ok (.iload 4, 2) := by decide +kernel
theorem dX6_stepAt_49 : decode cX6_stepAt 49 = .ok (.invokevirtual 84, 3) := by decide +kernel
theorem dX6_stepAt_52 : decode cX6_stepAt 52 = .ok (.istore 5, 2) := by decide +kernel
theorem dX6_stepAt_54 : decode cX6_stepAt 54 = .ok (.iinc 6 1, 3) := by decide +kernel
theorem dX6_stepAt_57 : decode cX6_stepAt 57 = .ok (.goto (-33), 3) := by decide +kernel
theorem dX6_stepAt_60 : decode cX6_stepAt 60 = .ok (.iload 5, 2) := by decide +kernel
theorem dX6_stepAt_62 : decode cX6_stepAt 62 = .ok (.ireturn, 1) := by decide +kernel
theorem dX6_linksFrom_0 : decode cX6_linksFrom 0 = .ok (.iconst 0, 1) := by decide +kernel
theorem dX6_linksFrom_1 : decode cX6_linksFrom 1 = .ok (.istore_n 3, 1) := by decide +kernel
theorem dX6_linksFrom_2 : decode cX6_linksFrom 2 = .ok (.iload_n 2, 1) := by decide +kernel
theorem dX6_linksFrom_3 : decode cX6_linksFrom 3 = .ok (.istore 4, 2) := by decide +kernel
theorem dX6_linksFrom_5 : decode cX6_linksFrom 5 = .ok (.iconst 0, 1) := by decide +kernel
theorem dX6_linksFrom_6 : decode cX6_linksFrom 6 = .ok (.istore 5, 2) := by decide +kernel
theorem dX6_linksFrom_8 : decode cX6_linksFrom 8 = .ok (.iload 5, 2) := by decide +kernel
theorem dX6_linksFrom_10 : decode cX6_linksFrom 10 = .ok (.bipush 7, 2) := by decide +kernel
theorem dX6_linksFrom_12 : decode cX6_linksFrom 12 = .ok (.if_icmp .ge 43, 3) := by decide +kernel
theorem dX6_linksFrom_15 : decode cX6_linksFrom 15 = .ok (.aload_n 0, 1) := by decide +kernel
theorem dX6_linksFrom_16 : decode cX6_linksFrom 16 = .ok (.aload_n 1, 1) := by decide +kernel
theorem dX6_linksFrom_17 : decode cX6_linksFrom 17 = .ok (.iload 4, 2) := by decide +kernel
theorem dX6_linksFrom_19 : decode cX6_linksFrom 19 = .ok (.invokevirtual 84, 3) := by decide +kernel
theorem dX6_linksFrom_22 : decode cX6_linksFrom 22 = .ok (.istore 6, 2) := by decide +kernel
theorem dX6_linksFrom_24 : decode cX6_linksFrom 24 = .ok (.iload 6, 2) := by decide +kernel
theorem dX6_linksFrom_26 : decode cX6_linksFrom 26 = .ok (.ifCond .ge 6, 3) := by decide +kernel
theorem dX6_linksFrom_29 : decode cX6_linksFrom 29 = .ok (.goto 26, 3) := by decide +kernel
theorem dX6_linksFrom_32 : decode cX6_linksFrom 32 = .ok (.iload_n 3, 1) := by decide +kernel
theorem dX6_linksFrom_33 : decode cX6_linksFrom 33 = .ok (.iconst 1, 1) := by decide +kernel
theorem dX6_linksFrom_34 : decode cX6_linksFrom 34 = .ok (.iload 6, 2) := by decide +kernel
theorem dX6_linksFrom_36 : decode cX6_linksFrom 36 = .ok (.ishl, 1) := by decide +kernel
theorem dX6_linksFrom_37 : decode cX6_linksFrom 37 = .ok (.ior, 1) := by decide +kernel
theorem dX6_linksFrom_38 : decode cX6_linksFrom 38 = .ok (.istore_n 3, 1) := by decide +kernel
theorem dX6_linksFrom_39 : decode cX6_linksFrom 39 = .ok (.aload_n 1, 1) := by decide +kernel
theorem dX6_linksFrom_40 : decode cX6_linksFrom 40 = .ok (.iload 6, 2) := by decide +kernel
theorem dX6_linksFrom_42 : decode cX6_linksFrom 42 = .ok (.iload 4, 2) := by decide +kernel
theorem dX6_linksFrom_44 : decode cX6_linksFrom 44 = .ok (.invokestatic 80, 3) := by decide +kernel
theorem dX6_linksFrom_47 : decode cX6_linksFrom 47 = .ok (.istore 4, 2) := by decide +kernel
theorem dX6_linksFrom_49 : decode cX6_linksFrom 49 = .ok (.iinc 5 1, 3) := by decide +kernel
theorem dX6_linksFrom_52 : decode cX6_linksFrom 52 = .ok (.goto (-44), 3) := by decide +kernel
theorem dX6_linksFrom_55 : decode cX6_linksFrom 55 = .ok (.iload_n 3, 1) := by decide +kernel
theorem dX6_linksFrom_56 : decode cX6_linksFrom 56 = .ok (.ireturn, 1) := by decide +kernel
theorem dX7_init_0 : decode cX7_init 0 = .ok (.aload_n 0, 1) := by decide +kernel
theorem dX7_init_1 : decode cX7_init 1 = .ok (.invokespecial 1, 3) := by decide +kernel
theorem dX7_init_4 : decode cX7_init 4 = .ok (.aload_n 0, 1) := by decide +kernel
theorem dX7_init_5 : decode cX7_init 5 = .ok (.new 7, 3) := by decide +kernel
theorem dX7_init_8 : decode cX7_init 8 = .ok (.dup, 1) := by decide +kernel
theorem dX7_init_9 : decode cX7_init 9 = .ok (.invokespecial 9, 3) := by decide +kernel
theorem dX7_init_12 : decode cX7_init 12 = .ok (.putfield 10, 3) := by decide +kernel
theorem dX7_init_15 : decode cX7_init 15 = .ok (.aload_n 0, 1) := by decide +kernel
theorem dX7_init_16 : decode cX7_init 16 = .ok (.new 16, 3) := by decide +kernel
theorem dX7_init_19 : decode cX7_init 19 = .ok (.dup, 1) := by decide +kernel
theorem dX7_init_20 : decode cX7_init 20 = .ok (.invokespecial 18, 3) := by decide +kernel
theorem dX7_init_23 : decode cX7_init 23 = .ok (.putfield 19, 3) := by decide +kernel
theorem dX7_init_26 : decode cX7_init 26 = .ok (.aload_n 0, 1) := by decide +kernel
theorem dX7_init_27 : decode cX7_init 27 = .ok (.new 16, 3) := by decide +kernel
theorem dX7_init_30 : decode cX7_init 30 = .ok (.dup, 1) := by decide +kernel
theorem dX7_init_31 : decode cX7_init 31 = .ok (.invokespecial 18, 3) := by decide +kernel
theorem dX7_init_34 : decode cX7_init 34 = .ok (.putfield 23, 3) := by decide +kernel
theorem dX7_init_37 : decode cX7_init 37 = .ok (.aload_n 0, 1) := by decide +kernel
theorem dX7_init_38 : decode cX7_init 38 = .ok (.new 26, 3) := by decide +kernel
theorem dX7_init_41 : decode cX7_init 41 = .ok (.dup, 1) := by decide +kernel
theorem dX7_init_42 : decode cX7_init 42 = .ok (.invokespecial 28, 3) := by decide +kernel
theorem dX7_init_45 : decode cX7_init 45 = .ok (.putfield 29, 3) := by decide +kernel
theorem dX7_init_48 : decode cX7_init 48 = .ok (.aload_n 0, 1) := by decide +kernel
theorem dX7_init_49 : decode cX7_init 49 = .ok (.new 33, 3) := by decide +kernel
theorem dX7_init_52 : decode cX7_init 52 = .ok (.dup, 1) := by decide +kernel
theorem dX7_init_53 : decode cX7_init 53 = .ok (.invokespecial 35, 3) := by decide +kernel
theorem dX7_init_56 : decode cX7_init 56 = .ok (.putfield 36, 3) := by decide +kernel
theorem dX7_init_59 : decode cX7_init 59 = .ok (.aload_n 0, 1) := by decide +kernel
theorem dX7_init_60 : decode cX7_init 60 = .ok (.new 40, 3) := by decide +kernel
theorem dX7_init_63 : decode cX7_init 63 = .ok (.dup, 1) := by decide +kernel
theorem dX7_init_64 : decode cX7_init 64 = .ok (.invokespecial 42, 3) := by decide +kernel
theorem dX7_init_67 : decode cX7_init 67 = .ok (.putfield 43, 3) := by decide +kernel
theorem dX7_init_70 : decode cX7_init 70 = .ok (.aload_n 0, 1) := by decide +kernel
theorem dX7_init_71 : decode cX7_init 71 = .ok (.new 47, 3) := by decide +kernel
theorem dX7_init_74 : decode cX7_init 74 = .ok (.dup, 1) := by decide +kernel
theorem dX7_init_75 : decode cX7_init 75 = .ok (.invokespecial 49, 3) := by decide +kernel
theorem dX7_init_78 : decode cX7_init 78 = .ok (.putfield 50, 3) := by decide +kernel
theorem dX7_init_81 : decode cX7_init 81 = .ok (.aload_n 0, 1) := by decide +kernel
theorem dX7_init_82 : decode cX7_init 82 = .ok (.iconst 2, 1) := by decide +kernel
theorem dX7_init_83 : decode cX7_init 83 = .ok (.anewarray 16, 3) := by decide +kernel
theorem dX7_init_86 : decode cX7_init 86 = .ok (.putfield 54, 3) := by decide +kernel
theorem dX7_init_89 : decode cX7_init 89 = .ok (.aload_n 0, 1) := by decide +kernel
theorem dX7_init_90 : decode cX7_init 90 = .ok (.iconst 2, 1) := by decide +kernel
theorem dX7_init_91 : decode cX7_init 91 = .ok (.newarray .boolean, 2) := by decide +kernel
theorem dX7_init_93 : decode cX7_init 93 = .ok (.putfield 58, 3) := by decide +kernel
theorem dX7_init_96 : decode cX7_init 96 = .ok (.iconst 0, 1) := by decide +kernel
theorem dX7_init_97 : decode cX7_init 97 = .ok (.istore_n 1, 1) := by decide +kernel
theorem dX7_init_98 : decode cX7_init 98 = .ok (.iload_n 1, 1) := by decide +kernel
theorem dX7_init_99 : decode cX7_init 99 = .ok (.iconst 2, 1) := by decide +kernel
theorem dX7_init_100 : decode cX7_init 100 = .ok (.if_icmp .ge 22, 3) := by decide +kernel
theorem dX7_init_103 : decode cX7_init 103 = .ok (.aload_n 0, 1) := by decide +kernel
theorem dX7_init_104 : decode cX7_init 104 = .ok (.getfield 54, 3) := by decide +kernel
theorem dX7_init_107 : decode cX7_init 107 = .ok (.iload_n 1, 1) := by decide +kernel
theorem dX7_init_108 : decode cX7_init 108 = .ok (.new 16, 3) := by decide +kernel
theorem dX7_init_111 : decode cX7_init 111 = .ok (.dup, 1) := by decide +kernel
theorem dX7_init_112 : decode cX7_init 112 = .ok (.invokespecial 18, 3) := by decide +kernel
theorem dX7_init_115 : decode cX7_init 115 = .ok (.aastore, 1) := by decide +kernel
theorem dX7_init_116 : decode cX7_init 116 = .ok (.iinc 1 1, 3) := by decide +kernel
theorem dX7_init_119 : decode cX7_init 119 = .ok (.goto (-21), 3) := by decide +kernel
theorem dX7_init_122 : decode cX7_init 122 = .ok (.return_, 1) := by decide +kernel
theorem dX7_type_0 : decode cX7_type 0 = .ok (.iload_n 1, 1) := by decide +kernel
theorem dX7_type_1 : decode cX7_type 1 = .ok (.ifCond .lt 10, 3) := by decide +kernel
theorem dX7_type_4 : decode cX7_type 4 = .ok (.iload_n 1, 1) := by decide +kernel
theorem dX7_type_5 : decode cX7_type 5 = .ok (.sipush 255, 3) := by decide +kernel
theorem dX7_type_8 : decode cX7_type 8 = .ok (.if_icmp .le 5, 3) := by decide +kernel
theorem dX7_type_11 : decode cX7_type 11 = .ok (.iconst (-1), 1) := by decide +kernel
theorem dX7_type_12 : decode cX7_type 12 = .ok (.ireturn, 1) := by decide +kernel
theorem dX7_type_13 : decode cX7_type 13 = .ok (.aload_n 0, 1) := by decide +kernel
theorem dX7_type_14 : decode cX7_type 14 = .ok (.getfield 10, 3) := by decide +kernel
theorem dX7_type_17 : decode cX7_type 17 = .ok (.iload_n 1, 1) := by decide +kernel
theorem dX7_type_18 : decode cX7_type 18 = .ok (.invokevirtual 62, 3) := by decide +kernel
theorem dX7_type_21 : decode cX7_type 21 = .ok (.ifCond .eq 13, 3) := by decide +kernel
theorem dX7_type_24 : decode cX7_type 24 = .ok (.aload_n 0, 1) := by decide +kernel
theorem dX7_type_25 : decode cX7_type 25 = .ok (.getfield 10, 3) := by decide +kernel
theorem dX7_type_28 : decode cX7_type 28 = .ok (.getfield 66, 3) := by decide +kernel
theorem dX7_type_31 : decode cX7_type 31 = .ok (.goto 5, 3) := by decide +kernel
theorem dX7_type_34 : decode cX7_type 34 = .ok (.bipush (-3), 2) := by decide +kernel
theorem dX7_type_36 : decode cX7_type 36 = .ok (.ireturn, 1) := by decide +kernel
theorem dX7_clear_0 : decode cX7_clear 0 = .ok (.aload_n 0, 1) := by decide +kernel
theorem dX7_clear_1 : decode cX7_clear 1 = .ok (.getfield 10, 3) := by decide +kernel
theorem dX7_clear_4 : decode cX7_clear 4 = .ok (.invokevirtual 70, 3) := by decide +kernel
theorem dX7_clear_7 : decode cX7_clear 7 = .ok (.ireturn, 1) := by decide +kernel
theorem dX7_tells_0 : decode cX7_tells 0 = .ok (.aload_n 0, 1) := by decide +kernel
theorem dX7_tells_1 : decode cX7_tells 1 = .ok (.getfield 10, 3) := by decide +kernel
theorem dX7_tells_4 : decode cX7_tells 4 = .ok (.aload_n 0, 1) := by decide +kernel
theorem dX7_tells_5 : decode cX7_tells 5 = .ok (.getfield 23, 3) := by decide +kernel
theorem dX7_tells_8 : decode cX7_tells 8 = .ok (.invokevirtual 74, 3) := by decide +kernel
theorem dX7_tells_11 : decode cX7_tells 11 = .ok (.istore_n 1, 1) := by decide +kernel
theorem dX7_tells_12 : decode cX7_tells 12 = .ok (.iload_n 1, 1) := by decide +kernel
theorem dX7_tells_13 : decode cX7_tells 13 = .ok (.ifCond .lt 33, 3) := by decide +kernel
theorem dX7_tells_16 : decode cX7_tells 16 = .ok (.aload_n 0, 1) := by decide +kernel
theorem dX7_tells_17 : decode cX7_tells 17 = .ok (.getfield 29, 3) := by decide +kernel
theorem dX7_tells_20 : decode cX7_tells 20 = .ok (.aload_n 0, 1) := by decide +kernel
theorem dX7_tells_21 : decode cX7_tells 21 = .ok (.getfield 19, 3) := by decide +kernel
theorem dX7_tells_24 : decode cX7_tells 24 = .ok (.invokevirtual 78, 3) := by decide +kernel
theorem dX7_tells_27 : decode cX7_tells 27 = .ok (.aload_n 0, 1) := by decide +kernel
theorem dX7_tells_28 : decode cX7_tells 28 = .ok (.getfield 19, 3) := by decide +kernel
theorem dX7_tells_31 : decode cX7_tells 31 = .ok (.aload_n 0, 1) := by decide +kernel
theorem dX7_tells_32 : decode cX7_tells 32 = .ok (.getfield 23, 3) := by decide +kernel
theorem dX7_tells_35 : decode cX7_tells 35 = .ok (.invokevirtual 82, 3) := by decide +kernel
theorem dX7_tells_38 : decode cX7_tells 38 = .ok (.aload_n 0, 1) := by decide +kernel
theorem dX7_tells_39 : decode cX7_tells 39 = .ok (.getfield 10, 3) := by decide +kernel
theorem dX7_tells_42 : decode cX7_tells 42 = .ok (.invokevirtual 70, 3) := by decide +kernel
theorem dX7_tells_45 : decode cX7_tells 45 = .ok (.pop, 1) := by decide +kernel
theorem dX7_tells_46 : decode cX7_tells 46 = .ok (.iload_n 1, 1) := by decide +kernel
theorem dX7_tells_47 : decode cX7_tells 47 = .ok (.ireturn, 1) := by decide +kernel
theorem dX7_joins_0 : decode cX7_joins 0 = .ok (.aload_n 0, 1) := by decide +kernel
theorem dX7_joins_1 : decode cX7_joins 1 = .ok (.getfield 19, 3) := by decide +kernel
theorem dX7_joins_4 : decode cX7_joins 4 = .ok (.iload_n 1, 1) := by decide +kernel
theorem dX7_joins_5 : decode cX7_joins 5 = .ok (.invokevirtual 85, 3) := by decide +kernel
theorem dX7_joins_8 : decode cX7_joins 8 = .ok (.ifCond .ne 5, 3) := by decide +kernel
theorem dX7_joins_11 : decode cX7_joins 11 = .ok (.iconst (-1), 1) := by decide +kernel
theorem dX7_joins_12 : decode cX7_joins 12 = .ok (.ireturn, 1) := by decide +kernel
theorem dX7_joins_13 : decode cX7_joins 13 = .ok (.aload_n 0, 1) := by decide +kernel
theorem dX7_joins_14 : decode cX7_joins 14 = .ok (.iload_n 1, 1) := by decide +kernel
theorem dX7_joins_15 : decode cX7_joins 15 = .ok (.invokevirtual 88, 3) := by decide +kernel
theorem dX7_joins_18 : decode cX7_joins 18 = .ok (.ifCond .ne 11, 3) := by decide +kernel
theorem dX7_joins_21 : decode cX7_joins 21 = .ok (.aload_n 0, 1) := by decide +kernel
theorem dX7_joins_22 : decode cX7_joins 22 = .ok (.iload_n 1, 1) := by decide +kernel
theorem dX7_joins_23 : decode cX7_joins 23 = .ok (.invokevirtual 92, 3) := by decide +kernel
theorem dX7_joins_26 : decode cX7_joins 26 = .ok (.ifCond .ne 6, 3) := by decide +kernel
theorem dX7_joins_29 : decode cX7_joins 29 = .ok (.bipush (-2), 2) := by decide +kernel
theorem dX7_joins_31 : decode cX7_joins 31 = .ok (.ireturn, 1) := by decide +kernel
theorem dX7_joins_32 : decode cX7_joins 32 = .ok (.aload_n 0, 1) := by decide +kernel
theorem dX7_joins_33 : decode cX7_joins 33 = .ok (.getfield 29, 3) := by decide +kernel
theorem dX7_joins_36 : decode cX7_joins 36 = .ok (.aload_n 0, 1) := by decide +kernel
theorem dX7_joins_37 : decode cX7_joins 37 = .ok (.getfield 19, 3) := by decide +kernel
theorem dX7_joins_40 : decode cX7_joins 40 = .ok (.invokevirtual 78, 3) := by decide +kernel
theorem dX7_joins_43 : decode cX7_joins 43 = .ok (.aload_n 0, 1) := by decide +kernel
theorem dX7_joins_44 : decode cX7_joins 44 = .ok (.getfield 36, 3) := by decide +kernel
theorem dX7_joins_47 : decode cX7_joins 47 = .ok (.aload_n 0, 1) := by decide +kernel
theorem dX7_joins_48 : decode cX7_joins 48 = .ok (.getfield 19, 3) := by decide +kernel
theorem dX7_joins_51 : decode cX7_joins 51 = .ok (.iload_n 1, 1) := by decide +kernel
theorem dX7_joins_52 : decode cX7_joins 52 = .ok (.invokevirtual 95, 3) := by decide +kernel
theorem dX7_joins_55 : decode cX7_joins 55 = .ok (.aload_n 0, 1) := by decide +kernel
theorem dX7_joins_56 : decode cX7_joins 56 = .ok (.getfield 36, 3) := by decide +kernel
theorem dX7_joins_59 : decode cX7_joins 59 = .ok (.aload_n 0, 1) := by decide +kernel
theorem dX7_joins_60 : decode cX7_joins 60 = .ok (.getfield 19, 3) := by decide +kernel
theorem dX7_joins_63 : decode cX7_joins 63 = .ok (.iload_n 1, 1) := by decide +kernel
theorem dX7_joins_64 : decode cX7_joins 64 = .ok (.invokevirtual 99, 3) := by decide +kernel
theorem dX7_joins_67 : decode cX7_joins 67 = .ok (.aload_n 0, 1) := by decide +kernel
theorem dX7_joins_68 : decode cX7_joins 68 = .ok (.getfield 19, 3) := by decide +kernel
theorem dX7_joins_71 : decode cX7_joins 71 = .ok (.aload_n 0, 1) := by decide +kernel
theorem dX7_joins_72 : decode cX7_joins 72 = .ok (.getfield 19, 3) := by decide +kernel
theorem dX7_joins_75 : decode cX7_joins 75 = .ok (.getfield 102, 3) := by decide +kernel
theorem dX7_joins_78 : decode cX7_joins 78 = .ok (.invokevirtual 105, 3) := by decide +kernel
theorem dX7_joins_81 : decode cX7_joins 81 = .ok (.ireturn, 1) := by decide +kernel
theorem dX7_leaves_0 : decode cX7_leaves 0 = .ok (.aload_n 0, 1) := by decide +kernel
theorem dX7_leaves_1 : decode cX7_leaves 1 = .ok (.getfield 19, 3) := by decide +kernel
theorem dX7_leaves_4 : decode cX7_leaves 4 = .ok (.iload_n 1, 1) := by decide +kernel
theorem dX7_leaves_5 : decode cX7_leaves 5 = .ok (.invokevirtual 85, 3) := by decide +kernel
theorem dX7_leaves_8 : decode cX7_leaves 8 = .ok (.ifCond .ne 5, 3) := by decide +kernel
theorem dX7_leaves_11 : decode cX7_leaves 11 = .ok (.iconst (-1), 1) := by decide +kernel
theorem dX7_leaves_12 : decode cX7_leaves 12 = .ok (.ireturn, 1) := by decide +kernel
theorem dX7_leaves_13 : decode cX7_leaves 13 = .ok (.aload_n 0, 1) := by decide +kernel
theorem dX7_leaves_14 : decode cX7_leaves 14 = .ok (.getfield 19, 3) := by decide +kernel
theorem dX7_leaves_17 : decode cX7_leaves 17 = .ok (.iload_n 1, 1) := by decide +kernel
theorem dX7_leaves_18 : decode cX7_leaves 18 = .ok (.invokevirtual 108, 3) := by decide +kernel
theorem dX7_leaves_21 : decode cX7_leaves 21 = .ok (.ifCond .ne 6, 3) := by decide +kernel
theorem dX7_leaves_24 : decode cX7_leaves 24 = .ok (.bipush (-2), 2) := by decide +kernel
theorem dX7_leaves_26 : decode cX7_leaves 26 = .ok (.ireturn, 1) := by decide +kernel
theorem dX7_leaves_27 : decode cX7_leaves 27 = .ok (.aload_n 0, 1) := by decide +kernel
theorem dX7_leaves_28 : decode cX7_leaves 28 = .ok (.getfield 29, 3) := by decide +kernel
theorem dX7_leaves_31 : decode cX7_leaves 31 = .ok (.aload_n 0, 1) := by decide +kernel
theorem dX7_leaves_32 : decode cX7_leaves 32 = .ok (.getfield 19, 3) := by decide +kernel
theorem dX7_leaves_35 : decode cX7_leaves 35 = .ok (.invokevirtual 78, 3) := by decide +kernel
theorem dX7_leaves_38 : decode cX7_leaves 38 = .ok (.aload_n 0, 1) := by decide +kernel
theorem dX7_leaves_39 : decode cX7_leaves 39 = .ok (.getfield 36, 3) := by decide +kernel
theorem dX7_leaves_42 : decode cX7_leaves 42 = .ok (.aload_n 0, 1) := by decide +kernel
theorem dX7_leaves_43 : decode cX7_leaves 43 = .ok (.getfield 19, 3) := by decide +kernel
theorem dX7_leaves_46 : decode cX7_leaves 46 = .ok (.iload_n 1, 1) := by decide +kernel
theorem dX7_leaves_47 : decode cX7_leaves 47 = .ok (.invokevirtual 111, 3) := by decide +kernel
theorem dX7_leaves_50 : decode cX7_leaves 50 = .ok (.aload_n 0, 1) := by decide +kernel
theorem dX7_leaves_51 : decode cX7_leaves 51 = .ok (.getfield 36, 3) := by decide +kernel
theorem dX7_leaves_54 : decode cX7_leaves 54 = .ok (.aload_n 0, 1) := by decide +kernel
theorem dX7_leaves_55 : decode cX7_leaves 55 = .ok (.getfield 19, 3) := by decide +kernel
theorem dX7_leaves_58 : decode cX7_leaves 58 = .ok (.iload_n 1, 1) := by decide +kernel
theorem dX7_leaves_59 : decode cX7_leaves 59 = .ok (.invokevirtual 99, 3) := by decide +kernel
theorem dX7_leaves_62 : decode cX7_leaves 62 = .ok (.aload_n 0, 1) := by decide +kernel
theorem dX7_leaves_63 : decode cX7_leaves 63 = .ok (.getfield 19, 3) := by decide +kernel
theorem dX7_leaves_66 : decode cX7_leaves 66 = .ok (.aload_n 0, 1) := by decide +kernel
theorem dX7_leaves_67 : decode cX7_leaves 67 = .ok (.getfield 19, 3) := by decide +kernel
theorem dX7_leaves_70 : decode cX7_leaves 70 = .ok (.getfield 102, 3) := by decide +kernel
theorem dX7_leaves_73 : decode cX7_leaves 73 = .ok (.invokevirtual 105, 3) := by decide +kernel
theorem dX7_leaves_76 : decode cX7_leaves 76 = .ok (.ireturn, 1) := by decide +kernel
theorem dX7_rearranges_0 : decode cX7_rearranges 0 = .ok (.aload_n 0, 1) := by decide +kernel
theorem dX7_rearranges_1 : decode cX7_rearranges 1 = .ok (.getfield 19, 3) := by decide +kernel
theorem dX7_rearranges_4 : decode cX7_rearranges 4 = .ok (.aload_n 0, 1) := by decide +kernel
theorem dX7_rearranges_5 : decode cX7_rearranges 5 = .ok (.getfield 19, 3) := by decide +kernel
theorem dX7_rearranges_8 : decode cX7_rearranges 8 = .ok (.getfield 102, 3) := by decide +kernel
theorem dX7_rearranges_11 : decode cX7_rearranges 11 = .ok (.invokevirtual 105, 3) := by decide +kernel
theorem dX7_rearranges_14 : decode cX7_rearranges 14 = .ok (.aload_n 0, 1) := by decide +kernel
theorem dX7_rearranges_15 : decode cX7_rearranges 15 = .ok (.getfield 19, 3) := by decide +kernel
theorem dX7_rearranges_18 : decode cX7_rearranges 18 = .ok (.aload_n 0, 1) := by decide +kernel
theorem dX7_rearranges_19 : decode cX7_rearranges 19 = .ok (.getfield 36, 3) := by decide +kernel
theorem dX7_rearranges_22 : decode cX7_rearranges 22 = .ok (.aload_n 0, 1) := by decide +kernel
theorem dX7_rearranges_23 : decode cX7_rearranges 23 = .ok (.getfield 19, 3) := by decide +kernel
theorem dX7_rearranges_26 : decode cX7_rearranges 26 = .ok (.invokevirtual 114, 3) := by decide +kernel
theorem dX7_rearranges_29 : decode cX7_rearranges 29 = .ok (.invokevirtual 105, 3) := by decide +kernel
theorem dX7_rearranges_32 : decode cX7_rearranges 32 = .ok (.isub, 1) := by decide +kernel
theorem dX7_rearranges_33 : decode cX7_rearranges 33 = .ok (.istore_n 1, 1) := by decide +kernel
theorem dX7_rearranges_34 : decode cX7_rearranges 34 = .ok (.iload_n 1, 1) := by decide +kernel
theorem dX7_rearranges_35 : decode cX7_rearranges 35 = .ok (.ifCond .gt 6, 3) := by decide +kernel
theorem dX7_rearranges_38 : decode cX7_rearranges 38 = .ok (.bipush (-2), 2) := by decide +kernel
theorem dX7_rearranges_40 : decode cX7_rearranges 40 = .ok (.ireturn, 1) := by decide +kernel
theorem dX7_rearranges_41 : decode cX7_rearranges 41 = .ok (.aload_n 0, 1) := by decide +kernel
theorem dX7_rearranges_42 : decode cX7_rearranges 42 = .ok (.getfield 29, 3) := by decide +kernel
theorem dX7_rearranges_45 : decode cX7_rearranges 45 = .ok (.aload_n 0, 1) := by decide +kernel
theorem dX7_rearranges_46 : decode cX7_rearranges 46 = .ok (.getfield 19, 3) := by decide +kernel
theorem dX7_rearranges_49 : decode cX7_rearranges 49 = .ok (.invokevirtual 78, 3) := by decide +kernel
theorem dX7_rearranges_52 : decode cX7_rearranges 52 = .ok (.aload_n 0, 1) := by decide +kernel
theorem dX7_rearranges_53 : decode cX7_rearranges 53 = .ok (.getfield 36, 3) := by decide +kernel
theorem dX7_rearranges_56 : decode cX7_rearranges 56 = .ok (.aload_n 0, 1) := by decide +kernel
theorem dX7_rearranges_57 : decode cX7_rearranges 57 = .ok (.getfield 19, 3) := by decide +kernel
theorem dX7_rearranges_60 : decode cX7_rearranges 60 = .ok (.invokevirtual 117, 3) := by decide +kernel
theorem dX7_rearranges_63 : decode cX7_rearranges 63 = .ok (.iload_n 1, 1) := by decide +kernel
theorem dX7_rearranges_64 : decode cX7_rearranges 64 = .ok (.ireturn, 1) := by decide +kernel
theorem dX7_cuts_0 : decode cX7_cuts 0 = .ok (.aload_n 0, 1) := by decide +kernel
theorem dX7_cuts_1 : decode cX7_cuts 1 = .ok (.getfield 19, 3) := by decide +kernel
theorem dX7_cuts_4 : decode cX7_cuts 4 = .ok (.iload_n 1, 1) := by decide +kernel
theorem dX7_cuts_5 : decode cX7_cuts 5 = .ok (.invokevirtual 120, 3) := by decide +kernel
theorem dX7_cuts_8 : decode cX7_cuts 8 = .ok (.ifCond .ne 5, 3) := by decide +kernel
theorem dX7_cuts_11 : decode cX7_cuts 11 = .ok (.iconst (-1), 1) := by decide +kernel
theorem dX7_cuts_12 : decode cX7_cuts 12 = .ok (.ireturn, 1) := by decide +kernel
theorem dX7_cuts_13 : decode cX7_cuts 13 = .ok (.aload_n 0, 1) := by decide +kernel
theorem dX7_cuts_14 : decode cX7_cuts 14 = .ok (.getfield 19, 3) := by decide +kernel
theorem dX7_cuts_17 : decode cX7_cuts 17 = .ok (.getfield 123, 3) := by decide +kernel
theorem dX7_cuts_20 : decode cX7_cuts 20 = .ok (.iload_n 1, 1) := by decide +kernel
theorem dX7_cuts_21 : decode cX7_cuts 21 = .ok (.invokestatic 126, 3) := by decide +kernel
theorem dX7_cuts_24 : decode cX7_cuts 24 = .ok (.ifCond .eq 6, 3) := by decide +kernel
theorem dX7_cuts_27 : decode cX7_cuts 27 = .ok (.bipush (-2), 2) := by decide +kernel
theorem dX7_cuts_29 : decode cX7_cuts 29 = .ok (.ireturn, 1) := by decide +kernel
theorem dX7_cuts_30 : decode cX7_cuts 30 = .ok (.aload_n 0, 1) := by decide +kernel
theorem dX7_cuts_31 : decode cX7_cuts 31 = .ok (.getfield 29, 3) := by decide +kernel
theorem dX7_cuts_34 : decode cX7_cuts 34 = .ok (.aload_n 0, 1) := by decide +kernel
theorem dX7_cuts_35 : decode cX7_cuts 35 = .ok (.getfield 19, 3) := by decide +kernel
theorem dX7_cuts_38 : decode cX7_cuts 38 = .ok (.invokevirtual 78, 3) := by decide +kernel
theorem dX7_cuts_41 : decode cX7_cuts 41 = .ok (.aload_n 0, 1) := by decide +kernel
theorem dX7_cuts_42 : decode cX7_cuts 42 = .ok (.getfield 36, 3) := by decide +kernel
theorem dX7_cuts_45 : decode cX7_cuts 45 = .ok (.aload_n 0, 1) := by decide +kernel
theorem dX7_cuts_46 : decode cX7_cuts 46 = .ok (.getfield 19, 3) := by decide +kernel
theorem dX7_cuts_49 : decode cX7_cuts 49 = .ok (.iload_n 1, 1) := by decide +kernel
theorem dX7_cuts_50 : decode cX7_cuts 50 = .ok (.invokevirtual 130, 3) := by decide +kernel
theorem dX7_cuts_53 : decode cX7_cuts 53 = .ok (.ireturn, 1) := by decide +kernel
theorem dX7_mends_0 : decode cX7_mends 0 = .ok (.aload_n 0, 1) := by decide +kernel
theorem dX7_mends_1 : decode cX7_mends 1 = .ok (.getfield 19, 3) := by decide +kernel
theorem dX7_mends_4 : decode cX7_mends 4 = .ok (.iload_n 1, 1) := by decide +kernel
theorem dX7_mends_5 : decode cX7_mends 5 = .ok (.invokevirtual 120, 3) := by decide +kernel
theorem dX7_mends_8 : decode cX7_mends 8 = .ok (.ifCond .ne 5, 3) := by decide +kernel
theorem dX7_mends_11 : decode cX7_mends 11 = .ok (.iconst (-1), 1) := by decide +kernel
theorem dX7_mends_12 : decode cX7_mends 12 = .ok (.ireturn, 1) := by decide +kernel
theorem dX7_mends_13 : decode cX7_mends 13 = .ok (.aload_n 0, 1) := by decide +kernel
theorem dX7_mends_14 : decode cX7_mends 14 = .ok (.getfield 19, 3) := by decide +kernel
theorem dX7_mends_17 : decode cX7_mends 17 = .ok (.getfield 123, 3) := by decide +kernel
theorem dX7_mends_20 : decode cX7_mends 20 = .ok (.iload_n 1, 1) := by decide +kernel
theorem dX7_mends_21 : decode cX7_mends 21 = .ok (.invokestatic 126, 3) := by decide +kernel
theorem dX7_mends_24 : decode cX7_mends 24 = .ok (.ifCond .ne 6, 3) := by decide +kernel
theorem dX7_mends_27 : decode cX7_mends 27 = .ok (.bipush (-2), 2) := by decide +kernel
theorem dX7_mends_29 : decode cX7_mends 29 = .ok (.ireturn, 1) := by decide +kernel
theorem dX7_mends_30 : decode cX7_mends 30 = .ok (.aload_n 0, 1) := by decide +kernel
theorem dX7_mends_31 : decode cX7_mends 31 = .ok (.getfield 29, 3) := by decide +kernel
theorem dX7_mends_34 : decode cX7_mends 34 = .ok (.aload_n 0, 1) := by decide +kernel
theorem dX7_mends_35 : decode cX7_mends 35 = .ok (.getfield 19, 3) := by decide +kernel
theorem dX7_mends_38 : decode cX7_mends 38 = .ok (.invokevirtual 78, 3) := by decide +kernel
theorem dX7_mends_41 : decode cX7_mends 41 = .ok (.aload_n 0, 1) := by decide +kernel
theorem dX7_mends_42 : decode cX7_mends 42 = .ok (.getfield 19, 3) := by decide +kernel
theorem dX7_mends_45 : decode cX7_mends 45 = .ok (.dup, 1) := by decide +kernel
theorem dX7_mends_46 : decode cX7_mends 46 = .ok (.getfield 123, 3) := by decide +kernel
theorem dX7_mends_49 : decode cX7_mends 49 = .ok (.iconst 1, 1) := by decide +kernel
theorem dX7_mends_50 : decode cX7_mends 50 = .ok (.iload_n 1, 1) := by decide +kernel
theorem dX7_mends_51 : decode cX7_mends 51 = .ok (.ishl, 1) := by decide +kernel
theorem dX7_mends_52 : decode cX7_mends 52 = .ok (.iconst (-1), 1) := by decide +kernel
theorem dX7_mends_53 : decode cX7_mends 53 = .ok (.ixor, 1) := by decide +kernel
theorem dX7_mends_54 : decode cX7_mends 54 = .ok (.iand, 1) := by decide +kernel
theorem dX7_mends_55 : decode cX7_mends 55 = .ok (.putfield 123, 3) := by decide +kernel
theorem dX7_mends_58 : decode cX7_mends 58 = .ok (.aload_n 0, 1) := by decide +kernel
theorem dX7_mends_59 : decode cX7_mends 59 = .ok (.getfield 19, 3) := by decide +kernel
theorem dX7_mends_62 : decode cX7_mends 62 = .ok (.getfield 123, 3) := by decide +kernel
theorem dX7_mends_65 : decode cX7_mends 65 = .ok (.invokestatic 134, 3) := by decide +kernel
theorem dX7_mends_68 : decode cX7_mends 68 = .ok (.ireturn, 1) := by decide +kernel
theorem dX7_limits_0 : decode cX7_limits 0 = .ok (.iload_n 1, 1) := by decide +kernel
theorem dX7_limits_1 : decode cX7_limits 1 = .ok (.ifCond .lt 9, 3) := by decide +kernel
theorem dX7_limits_4 : decode cX7_limits 4 = .ok (.iload_n 1, 1) := by decide +kernel
theorem dX7_limits_5 : decode cX7_limits 5 = .ok (.bipush 9, 2) := by decide +kernel
theorem dX7_limits_7 : decode cX7_limits 7 = .ok (.if_icmp .le 5, 3) := by decide +kernel
theorem dX7_limits_10 : decode cX7_limits 10 = .ok (.iconst (-1), 1) := by decide +kernel
theorem dX7_limits_11 : decode cX7_limits 11 = .ok (.ireturn, 1) := by decide +kernel
theorem dX7_limits_12 : decode cX7_limits 12 = .ok (.iload_n 1, 1) := by decide +kernel
theorem dX7_limits_13 : decode cX7_limits 13 = .ok (.aload_n 0, 1) := by decide +kernel
theorem dX7_limits_14 : decode cX7_limits 14 = .ok (.getfield 19, 3) := by decide +kernel
theorem dX7_limits_17 : decode cX7_limits 17 = .ok (.getfield 139, 3) := by decide +kernel
theorem dX7_limits_20 : decode cX7_limits 20 = .ok (.if_icmp .ne 6, 3) := by decide +kernel
theorem dX7_limits_23 : decode cX7_limits 23 = .ok (.bipush (-2), 2) := by decide +kernel
theorem dX7_limits_25 : decode cX7_limits 25 = .ok (.ireturn, 1) := by decide +kernel
theorem dX7_limits_26 : decode cX7_limits 26 = .ok (.aload_n 0, 1) := by decide +kernel
theorem dX7_limits_27 : decode cX7_limits 27 = .ok (.getfield 29, 3) := by decide +kernel
theorem dX7_limits_30 : decode cX7_limits 30 = .ok (.aload_n 0, 1) := by decide +kernel
theorem dX7_limits_31 : decode cX7_limits 31 = .ok (.getfield 19, 3) := by decide +kernel
theorem dX7_limits_34 : decode cX7_limits 34 = .ok (.invokevirtual 78, 3) := by decide +kernel
theorem dX7_limits_37 : decode cX7_limits 37 = .ok (.aload_n 0, 1) := by decide +kernel
theorem dX7_limits_38 : decode cX7_limits 38 = .ok (.getfield 19, 3) := by decide +kernel
theorem dX7_limits_41 : decode cX7_limits 41 = .ok (.getfield 139, 3) := by decide +kernel
theorem dX7_limits_44 : decode cX7_limits 44 = .ok (.istore_n 2, 1) := by decide +kernel
theorem dX7_limits_45 : decode cX7_limits 45 = .ok (.aload_n 0, 1) := by decide +kernel
theorem dX7_limits_46 : decode cX7_limits 46 = .ok (.getfield 19, 3) := by decide +kernel
theorem dX7_limits_49 : decode cX7_limits 49 = .ok (.iload_n 1, 1) := by decide +kernel
theorem dX7_limits_50 : decode cX7_limits 50 = .ok (.putfield 139, 3) := by decide +kernel
theorem dX7_limits_53 : decode cX7_limits 53 = .ok (.iload_n 2, 1) := by decide +kernel
theorem dX7_limits_54 : decode cX7_limits 54 = .ok (.ireturn, 1) := by decide +kernel
theorem dX7_undo_0 : decode cX7_undo 0 = .ok (.aload_n 0, 1) := by decide +kernel
theorem dX7_undo_1 : decode cX7_undo 1 = .ok (.getfield 29, 3) := by decide +kernel
theorem dX7_undo_4 : decode cX7_undo 4 = .ok (.aload_n 0, 1) := by decide +kernel
theorem dX7_undo_5 : decode cX7_undo 5 = .ok (.getfield 19, 3) := by decide +kernel
theorem dX7_undo_8 : decode cX7_undo 8 = .ok (.invokevirtual 142, 3) := by decide +kernel
theorem dX7_undo_11 : decode cX7_undo 11 = .ok (.ifCond .eq 13, 3) := by decide +kernel
theorem dX7_undo_14 : decode cX7_undo 14 = .ok (.aload_n 0, 1) := by decide +kernel
theorem dX7_undo_15 : decode cX7_undo 15 = .ok (.getfield 29, 3) := by decide +kernel
theorem dX7_undo_18 : decode cX7_undo 18 = .ok (.getfield 146, 3) := by decide +kernel
theorem dX7_undo_21 : decode cX7_undo 21 = .ok (.goto 5, 3) := by decide +kernel
theorem dX7_undo_24 : decode cX7_undo 24 = .ok (.bipush (-2), 2) := by decide +kernel
theorem dX7_undo_26 : decode cX7_undo 26 = .ok (.ireturn, 1) := by decide +kernel
theorem dX7_link_0 : decode cX7_link 0 = .ok (.aload_n 0, 1) := by decide +kernel
theorem dX7_link_1 : decode cX7_link 1 = .ok (.getfield 19, 3) := by decide +kernel
theorem dX7_link_4 : decode cX7_link 4 = .ok (.iload_n 1, 1) := by decide +kernel
theorem dX7_link_5 : decode cX7_link 5 = .ok (.invokevirtual 120, 3) := by decide +kernel
theorem dX7_link_8 : decode cX7_link 8 = .ok (.ifCond .ne 5, 3) := by decide +kernel
theorem dX7_link_11 : decode cX7_link 11 = .ok (.iconst (-1), 1) := by decide +kernel
theorem dX7_link_12 : decode cX7_link 12 = .ok (.ireturn, 1) := by decide +kernel
theorem dX7_link_13 : decode cX7_link 13 = .ok (.iload_n 2, 1) := by decide +kernel
theorem dX7_link_14 : decode cX7_link 14 = .ok (.tableswitch 117 0 5 #[38, 48, 58, 68, 88, 108], 38) := by decide +kernel
theorem dX7_link_52 : decode cX7_link 52 = .ok (.aload_n 0, 1) := by decide +kernel
theorem dX7_link_53 : decode cX7_link 53 = .ok (.getfield 19, 3) := by decide +kernel
theorem dX7_link_56 : decode cX7_link 56 = .ok (.getfield 149, 3) := by decide +kernel
theorem dX7_link_59 : decode cX7_link 59 = .ok (.iload_n 1, 1) := by decide +kernel
theorem dX7_link_60 : decode cX7_link 60 = .ok (.iaload, 1) := by decide +kernel
theorem dX7_link_61 : decode cX7_link 61 = .ok (.ireturn, 1) := by decide +kernel
theorem dX7_link_62 : decode cX7_link 62 = .ok (.aload_n 0, 1) := by decide +kernel
theorem dX7_link_63 : decode cX7_link 63 = .ok (.getfield 19, 3) := by decide +kernel
theorem dX7_link_66 : decode cX7_link 66 = .ok (.getfield 153, 3) := by decide +kernel
theorem dX7_link_69 : decode cX7_link 69 = .ok (.iload_n 1, 1) := by decide +kernel
theorem dX7_link_70 : decode cX7_link 70 = .ok (.iaload, 1) := by decide +kernel
theorem dX7_link_71 : decode cX7_link 71 = .ok (.ireturn, 1) := by decide +kernel
theorem dX7_link_72 : decode cX7_link 72 = .ok (.aload_n 0, 1) := by decide +kernel
theorem dX7_link_73 : decode cX7_link 73 = .ok (.getfield 19, 3) := by decide +kernel
theorem dX7_link_76 : decode cX7_link 76 = .ok (.getfield 156, 3) := by decide +kernel
theorem dX7_link_79 : decode cX7_link 79 = .ok (.iload_n 1, 1) := by decide +kernel
theorem dX7_link_80 : decode cX7_link 80 = .ok (.iaload, 1) := by decide +kernel
theorem dX7_link_81 : decode cX7_link 81 = .ok (.ireturn, 1) := by decide +kernel
theorem dX7_link_82 : decode cX7_link 82 = .ok (.aload_n 0, 1) := by decide +kernel
theorem dX7_link_83 : decode cX7_link 83 = .ok (.getfield 19, 3) := by decide +kernel
theorem dX7_link_86 : decode cX7_link 86 = .ok (.getfield 102, 3) := by decide +kernel
theorem dX7_link_89 : decode cX7_link 89 = .ok (.iload_n 1, 1) := by decide +kernel
theorem dX7_link_90 : decode cX7_link 90 = .ok (.invokestatic 126, 3) := by decide +kernel
theorem dX7_link_93 : decode cX7_link 93 = .ok (.ifCond .eq 7, 3) := by decide +kernel
theorem dX7_link_96 : decode cX7_link 96 = .ok (.iconst 1, 1) := by decide +kernel
theorem dX7_link_97 : decode cX7_link 97 = .ok (.goto 4, 3) := by decide +kernel
theorem dX7_link_100 : decode cX7_link 100 = .ok (.iconst 0, 1) := by decide +kernel
theorem dX7_link_101 : decode cX7_link 101 = .ok (.ireturn, 1) := by decide +kernel
theorem dX7_link_102 : decode cX7_link 102 = .ok (.aload_n 0, 1) := by decide +kernel
theorem dX7_link_103 : decode cX7_link 103 = .ok (.getfield 19, 3) := by decide +kernel
theorem dX7_link_106 : decode cX7_link 106 = .ok (.getfield 123, 3) := by decide +kernel
theorem dX7_link_109 : decode cX7_link 109 = .ok (.iload_n 1, 1) := by decide +kernel
theorem dX7_link_110 : decode cX7_link 110 = .ok (.invokestatic 126, 3) := by decide +kernel
theorem dX7_link_113 : decode cX7_link 113 = .ok (.ifCond .eq 7, 3) := by decide +kernel
theorem dX7_link_116 : decode cX7_link 116 = .ok (.iconst 1, 1) := by decide +kernel
theorem dX7_link_117 : decode cX7_link 117 = .ok (.goto 4, 3) := by decide +kernel
theorem dX7_link_120 : decode cX7_link 120 = .ok (.iconst 0, 1) := by decide +kernel
theorem dX7_link_121 : decode cX7_link 121 = .ok (.ireturn, 1) := by decide +kernel
theorem dX7_link_122 : decode cX7_link 122 = .ok (.aload_n 0, 1) := by decide +kernel
theorem dX7_link_123 : decode cX7_link 123 = .ok (.getfield 19, 3) := by decide +kernel
theorem dX7_link_126 : decode cX7_link 126 = .ok (.iload_n 1, 1) := by decide +kernel
theorem dX7_link_127 : decode cX7_link 127 = .ok (.invokevirtual 159, 3) := by decide +kernel
theorem dX7_link_130 : decode cX7_link 130 = .ok (.ireturn, 1) := by decide +kernel
theorem dX7_link_131 : decode cX7_link 131 = .ok (.iconst (-1), 1) := by decide +kernel
theorem dX7_link_132 : decode cX7_link 132 = .ok (.ireturn, 1) := by decide +kernel
theorem dX7_node_0 : decode cX7_node 0 = .ok (.aload_n 0, 1) := by decide +kernel
theorem dX7_node_1 : decode cX7_node 1 = .ok (.getfield 19, 3) := by decide +kernel
theorem dX7_node_4 : decode cX7_node 4 = .ok (.iload_n 1, 1) := by decide +kernel
theorem dX7_node_5 : decode cX7_node 5 = .ok (.invokevirtual 85, 3) := by decide +kernel
theorem dX7_node_8 : decode cX7_node 8 = .ok (.ifCond .ne 5, 3) := by decide +kernel
theorem dX7_node_11 : decode cX7_node 11 = .ok (.iconst (-1), 1) := by decide +kernel
theorem dX7_node_12 : decode cX7_node 12 = .ok (.ireturn, 1) := by decide +kernel
theorem dX7_node_13 : decode cX7_node 13 = .ok (.iload_n 2, 1) := by decide +kernel
theorem dX7_node_14 : decode cX7_node 14 = .ok (.tableswitch 164 0 6 #[42, 48, 75, 81, 108, 135, 144], 42) := by decide +kernel
theorem dX7_node_56 : decode cX7_node 56 = .ok (.aload_n 0, 1) := by decide +kernel
theorem dX7_node_57 : decode cX7_node 57 = .ok (.iload_n 1, 1) := by decide +kernel
theorem dX7_node_58 : decode cX7_node 58 = .ok (.invokevirtual 88, 3) := by decide +kernel
theorem dX7_node_61 : decode cX7_node 61 = .ok (.ireturn, 1) := by decide +kernel
theorem dX7_node_62 : decode cX7_node 62 = .ok (.aload_n 0, 1) := by decide +kernel
theorem dX7_node_63 : decode cX7_node 63 = .ok (.getfield 19, 3) := by decide +kernel
theorem dX7_node_66 : decode cX7_node 66 = .ok (.aload_n 0, 1) := by decide +kernel
theorem dX7_node_67 : decode cX7_node 67 = .ok (.getfield 19, 3) := by decide +kernel
theorem dX7_node_70 : decode cX7_node 70 = .ok (.getfield 102, 3) := by decide +kernel
theorem dX7_node_73 : decode cX7_node 73 = .ok (.invokevirtual 162, 3) := by decide +kernel
theorem dX7_node_76 : decode cX7_node 76 = .ok (.iload_n 1, 1) := by decide +kernel
theorem dX7_node_77 : decode cX7_node 77 = .ok (.invokestatic 126, 3) := by decide +kernel
theorem dX7_node_80 : decode cX7_node 80 = .ok (.ifCond .eq 7, 3) := by decide +kernel
theorem dX7_node_83 : decode cX7_node 83 = .ok (.iconst 1, 1) := by decide +kernel
theorem dX7_node_84 : decode cX7_node 84 = .ok (.goto 4, 3) := by decide +kernel
theorem dX7_node_87 : decode cX7_node 87 = .ok (.iconst 0, 1) := by decide +kernel
theorem dX7_node_88 : decode cX7_node 88 = .ok (.ireturn, 1) := by decide +kernel
theorem dX7_node_89 : decode cX7_node 89 = .ok (.aload_n 0, 1) := by decide +kernel
theorem dX7_node_90 : decode cX7_node 90 = .ok (.iload_n 1, 1) := by decide +kernel
theorem dX7_node_91 : decode cX7_node 91 = .ok (.invokevirtual 165, 3) := by decide +kernel
theorem dX7_node_94 : decode cX7_node 94 = .ok (.ireturn, 1) := by decide +kernel
theorem dX7_node_95 : decode cX7_node 95 = .ok (.aload_n 0, 1) := by decide +kernel
theorem dX7_node_96 : decode cX7_node 96 = .ok (.getfield 43, 3) := by decide +kernel
theorem dX7_node_99 : decode cX7_node 99 = .ok (.aload_n 0, 1) := by decide +kernel
theorem dX7_node_100 : decode cX7_node 100 = .ok (.getfield 19, 3) := by decide +kernel
theorem dX7_node_103 : decode cX7_node 103 = .ok (.aload_n 0, 1) := by decide +kernel
theorem dX7_node_104 : decode cX7_node 104 = .ok (.getfield 19, 3) := by decide +kernel
theorem dX7_node_107 : decode cX7_node 107 = .ok (.getfield 102, 3) := by decide +kernel
theorem dX7_node_110 : decode cX7_node 110 = .ok (.invokevirtual 168, 3) := by decide +kernel
theorem dX7_node_113 : decode cX7_node 113 = .ok (.aload_n 0, 1) := by decide +kernel
theorem dX7_node_114 : decode cX7_node 114 = .ok (.getfield 43, 3) := by decide +kernel
theorem dX7_node_117 : decode cX7_node 117 = .ok (.iload_n 1, 1) := by decide +kernel
theorem dX7_node_118 : decode cX7_node 118 = .ok (.invokevirtual 171, 3) := by decide +kernel
theorem dX7_node_121 : decode cX7_node 121 = .ok (.ireturn, 1) := by decide +kernel
theorem dX7_node_122 : decode cX7_node 122 = .ok (.aload_n 0, 1) := by decide +kernel
theorem dX7_node_123 : decode cX7_node 123 = .ok (.getfield 43, 3) := by decide +kernel
theorem dX7_node_126 : decode cX7_node 126 = .ok (.aload_n 0, 1) := by decide +kernel
theorem dX7_node_127 : decode cX7_node 127 = .ok (.getfield 19, 3) := by decide +kernel
theorem dX7_node_130 : decode cX7_node 130 = .ok (.aload_n 0, 1) := by decide +kernel
theorem dX7_node_131 : decode cX7_node 131 = .ok (.getfield 19, 3) := by decide +kernel
theorem dX7_node_134 : decode cX7_node 134 = .ok (.getfield 102, 3) := by decide +kernel
theorem dX7_node_137 : decode cX7_node 137 = .ok (.invokevirtual 168, 3) := by decide +kernel
theorem dX7_node_140 : decode cX7_node 140 = .ok (.aload_n 0, 1) := by decide +kernel
theorem dX7_node_141 : decode cX7_node 141 = .ok (.getfield 43, 3) := by decide +kernel
theorem dX7_node_144 : decode cX7_node 144 = .ok (.iload_n 1, 1) := by decide +kernel
theorem dX7_node_145 : decode cX7_node 145 = .ok (.invokevirtual 174, 3) := by decide +kernel
theorem dX7_node_148 : decode cX7_node 148 = .ok (.ireturn, 1) := by decide +kernel
theorem dX7_node_149 : decode cX7_node 149 = .ok (.aload_n 0, 1) := by decide +kernel
theorem dX7_node_150 : decode cX7_node 150 = .ok (.getfield 19, 3) := by decide +kernel
theorem dX7_node_153 : decode cX7_node 153 = .ok (.iload_n 1, 1) := by decide +kernel
theorem dX7_node_154 : decode cX7_node 154 = .ok (.invokevirtual 177, 3) := by decide +kernel
theorem dX7_node_157 : decode cX7_node 157 = .ok (.ireturn, 1) := by decide +kernel
theorem dX7_node_158 : decode cX7_node 158 = .ok (.aload_n 0, 1) := by decide +kernel
theorem dX7_node_159 : decode cX7_node 159 = .ok (.getfield 19, 3) := by decide +kernel
theorem dX7_node_162 : decode cX7_node 162 = .ok (.iload_n 1, 1) := by decide +kernel
theorem dX7_node_163 : decode cX7_node 163 = .ok (.invokevirtual 180, 3) := by decide +kernel
theorem dX7_node_166 : decode cX7_node 166 = .ok (.aload_n 0, 1) := by decide +kernel
theorem dX7_node_167 : decode cX7_node 167 = .ok (.getfield 19, 3) := by decide +kernel
theorem dX7_node_170 : decode cX7_node 170 = .ok (.getfield 102, 3) := by decide +kernel
theorem dX7_node_173 : decode cX7_node 173 = .ok (.iand, 1) := by decide +kernel
theorem dX7_node_174 : decode cX7_node 174 = .ok (.invokestatic 134, 3) := by decide +kernel
theorem dX7_node_177 : decode cX7_node 177 = .ok (.ireturn, 1) := by decide +kernel
theorem dX7_node_178 : decode cX7_node 178 = .ok (.iconst (-1), 1) := by decide +kernel
theorem dX7_node_179 : decode cX7_node 179 = .ok (.ireturn, 1) := by decide +kernel
theorem dX7_way_0 : decode cX7_way 0 = .ok (.aload_n 0, 1) := by decide +kernel
theorem dX7_way_1 : decode cX7_way 1 = .ok (.getfield 19, 3) := by decide +kernel
theorem dX7_way_4 : decode cX7_way 4 = .ok (.iload_n 1, 1) := by decide +kernel
theorem dX7_way_5 : decode cX7_way 5 = .ok (.invokevirtual 85, 3) := by decide +kernel
theorem dX7_way_8 : decode cX7_way 8 = .ok (.ifCond .eq 7, 3) := by decide +kernel
theorem dX7_way_11 : decode cX7_way 11 = .ok (.iload_n 2, 1) := by decide +kernel
theorem dX7_way_12 : decode cX7_way 12 = .ok (.ifCond .ge 5, 3) := by decide +kernel
theorem dX7_way_15 : decode cX7_way 15 = .ok (.iconst (-1), 1) := by decide +kernel
theorem dX7_way_16 : decode cX7_way 16 = .ok (.ireturn, 1) := by decide +kernel
theorem dX7_way_17 : decode cX7_way 17 = .ok (.aload_n 0, 1) := by decide +kernel
theorem dX7_way_18 : decode cX7_way 18 = .ok (.getfield 43, 3) := by decide +kernel
theorem dX7_way_21 : decode cX7_way 21 = .ok (.aload_n 0, 1) := by decide +kernel
theorem dX7_way_22 : decode cX7_way 22 = .ok (.getfield 19, 3) := by decide +kernel
theorem dX7_way_25 : decode cX7_way 25 = .ok (.aload_n 0, 1) := by decide +kernel
theorem dX7_way_26 : decode cX7_way 26 = .ok (.getfield 19, 3) := by decide +kernel
theorem dX7_way_29 : decode cX7_way 29 = .ok (.getfield 102, 3) := by decide +kernel
theorem dX7_way_32 : decode cX7_way 32 = .ok (.invokevirtual 168, 3) := by decide +kernel
theorem dX7_way_35 : decode cX7_way 35 = .ok (.aload_n 0, 1) := by decide +kernel
theorem dX7_way_36 : decode cX7_way 36 = .ok (.getfield 43, 3) := by decide +kernel
theorem dX7_way_39 : decode cX7_way 39 = .ok (.aload_n 0, 1) := by decide +kernel
theorem dX7_way_40 : decode cX7_way 40 = .ok (.getfield 19, 3) := by decide +kernel
theorem dX7_way_43 : decode cX7_way 43 = .ok (.iload_n 1, 1) := by decide +kernel
theorem dX7_way_44 : decode cX7_way 44 = .ok (.iload_n 2, 1) := by decide +kernel
theorem dX7_way_45 : decode cX7_way 45 = .ok (.invokevirtual 183, 3) := by decide +kernel
theorem dX7_way_48 : decode cX7_way 48 = .ok (.ireturn, 1) := by decide +kernel
theorem dX7_tree_0 : decode cX7_tree 0 = .ok (.iload_n 1, 1) := by decide +kernel
theorem dX7_tree_1 : decode cX7_tree 1 = .ok (.tableswitch 124 0 6 #[43, 58, 77, 92, 100, 108, 116], 43) := by decide +kernel
theorem dX7_tree_44 : decode cX7_tree 44 = .ok (.aload_n 0, 1) := by decide +kernel
theorem dX7_tree_45 : decode cX7_tree 45 = .ok (.getfield 19, 3) := by decide +kernel
theorem dX7_tree_48 : decode cX7_tree 48 = .ok (.aload_n 0, 1) := by decide +kernel
theorem dX7_tree_49 : decode cX7_tree 49 = .ok (.getfield 19, 3) := by decide +kernel
theorem dX7_tree_52 : decode cX7_tree 52 = .ok (.getfield 102, 3) := by decide +kernel
theorem dX7_tree_55 : decode cX7_tree 55 = .ok (.invokevirtual 105, 3) := by decide +kernel
theorem dX7_tree_58 : decode cX7_tree 58 = .ok (.ireturn, 1) := by decide +kernel
theorem dX7_tree_59 : decode cX7_tree 59 = .ok (.aload_n 0, 1) := by decide +kernel
theorem dX7_tree_60 : decode cX7_tree 60 = .ok (.getfield 19, 3) := by decide +kernel
theorem dX7_tree_63 : decode cX7_tree 63 = .ok (.aload_n 0, 1) := by decide +kernel
theorem dX7_tree_64 : decode cX7_tree 64 = .ok (.getfield 36, 3) := by decide +kernel
theorem dX7_tree_67 : decode cX7_tree 67 = .ok (.aload_n 0, 1) := by decide +kernel
theorem dX7_tree_68 : decode cX7_tree 68 = .ok (.getfield 19, 3) := by decide +kernel
theorem dX7_tree_71 : decode cX7_tree 71 = .ok (.invokevirtual 114, 3) := by decide +kernel
theorem dX7_tree_74 : decode cX7_tree 74 = .ok (.invokevirtual 105, 3) := by decide +kernel
theorem dX7_tree_77 : decode cX7_tree 77 = .ok (.ireturn, 1) := by decide +kernel
theorem dX7_tree_78 : decode cX7_tree 78 = .ok (.aload_n 0, 1) := by decide +kernel
theorem dX7_tree_79 : decode cX7_tree 79 = .ok (.getfield 19, 3) := by decide +kernel
theorem dX7_tree_82 : decode cX7_tree 82 = .ok (.aload_n 0, 1) := by decide +kernel
theorem dX7_tree_83 : decode cX7_tree 83 = .ok (.getfield 19, 3) := by decide +kernel
theorem dX7_tree_86 : decode cX7_tree 86 = .ok (.invokestatic 187, 3) := by decide +kernel
theorem dX7_tree_89 : decode cX7_tree 89 = .ok (.invokevirtual 105, 3) := by decide +kernel
theorem dX7_tree_92 : decode cX7_tree 92 = .ok (.ireturn, 1) := by decide +kernel
theorem dX7_tree_93 : decode cX7_tree 93 = .ok (.aload_n 0, 1) := by decide +kernel
theorem dX7_tree_94 : decode cX7_tree 94 = .ok (.getfield 19, 3) := by decide +kernel
theorem dX7_tree_97 : decode cX7_tree 97 = .ok (.invokestatic 187, 3) := by decide +kernel
theorem dX7_tree_100 : decode cX7_tree 100 = .ok (.ireturn, 1) := by decide +kernel
theorem dX7_tree_101 : decode cX7_tree 101 = .ok (.aload_n 0, 1) := by decide +kernel
theorem dX7_tree_102 : decode cX7_tree 102 = .ok (.getfield 19, 3) := by decide +kernel
theorem dX7_tree_105 : decode cX7_tree 105 = .ok (.getfield 102, 3) := by decide +kernel
theorem dX7_tree_108 : decode cX7_tree 108 = .ok (.ireturn, 1) := by decide +kernel
theorem dX7_tree_109 : decode cX7_tree 109 = .ok (.aload_n 0, 1) := by decide +kernel
theorem dX7_tree_110 : decode cX7_tree 110 = .ok (.getfield 19, 3) := by decide +kernel
theorem dX7_tree_113 : decode cX7_tree 113 = .ok (.invokevirtual 192, 3) := by decide +kernel
theorem dX7_tree_116 : decode cX7_tree 116 = .ok (.ireturn, 1) := by decide +kernel
theorem dX7_tree_117 : decode cX7_tree 117 = .ok (.aload_n 0, 1) := by decide +kernel
theorem dX7_tree_118 : decode cX7_tree 118 = .ok (.getfield 19, 3) := by decide +kernel
theorem dX7_tree_121 : decode cX7_tree 121 = .ok (.invokevirtual 195, 3) := by decide +kernel
theorem dX7_tree_124 : decode cX7_tree 124 = .ok (.ireturn, 1) := by decide +kernel
theorem dX7_tree_125 : decode cX7_tree 125 = .ok (.iconst (-1), 1) := by decide +kernel
theorem dX7_tree_126 : decode cX7_tree 126 = .ok (.ireturn, 1) := by decide +kernel
theorem dX7_sees_0 : decode cX7_sees 0 = .ok (.iload_n 2, 1) := by decide +kernel
theorem dX7_sees_1 : decode cX7_sees 1 = .ok (.bipush (-9), 2) := by decide +kernel
theorem dX7_sees_3 : decode cX7_sees 3 = .ok (.if_icmp .eq 13, 3) := by decide +kernel
theorem dX7_sees_6 : decode cX7_sees 6 = .ok (.iload_n 2, 1) := by decide +kernel
theorem dX7_sees_7 : decode cX7_sees 7 = .ok (.ifCond .lt 13, 3) := by decide +kernel
theorem dX7_sees_10 : decode cX7_sees 10 = .ok (.iload_n 2, 1) := by decide +kernel
theorem dX7_sees_11 : decode cX7_sees 11 = .ok (.bipush 99, 2) := by decide +kernel
theorem dX7_sees_13 : decode cX7_sees 13 = .ok (.if_icmp .gt 7, 3) := by decide +kernel
theorem dX7_sees_16 : decode cX7_sees 16 = .ok (.iconst 1, 1) := by decide +kernel
theorem dX7_sees_17 : decode cX7_sees 17 = .ok (.goto 4, 3) := by decide +kernel
theorem dX7_sees_20 : decode cX7_sees 20 = .ok (.iconst 0, 1) := by decide +kernel
theorem dX7_sees_21 : decode cX7_sees 21 = .ok (.istore_n 3, 1) := by decide +kernel
theorem dX7_sees_22 : decode cX7_sees 22 = .ok (.iload_n 1, 1) := by decide +kernel
theorem dX7_sees_23 : decode cX7_sees 23 = .ok (.ifCond .lt 12, 3) := by decide +kernel
theorem dX7_sees_26 : decode cX7_sees 26 = .ok (.iload_n 1, 1) := by decide +kernel
theorem dX7_sees_27 : decode cX7_sees 27 = .ok (.iconst 1, 1) := by decide +kernel
theorem dX7_sees_28 : decode cX7_sees 28 = .ok (.if_icmp .gt 7, 3) := by decide +kernel
theorem dX7_sees_31 : decode cX7_sees 31 = .ok (.iload_n 3, 1) := by decide +kernel
theorem dX7_sees_32 : decode cX7_sees 32 = .ok (.ifCond .ne 5, 3) := by decide +kernel
theorem dX7_sees_35 : decode cX7_sees 35 = .ok (.iconst (-1), 1) := by decide +kernel
theorem dX7_sees_36 : decode cX7_sees 36 = .ok (.ireturn, 1) := by decide +kernel
theorem dX7_sees_37 : decode cX7_sees 37 = .ok (.aload_n 0, 1) := by decide +kernel
theorem dX7_sees_38 : decode cX7_sees 38 = .ok (.getfield 50, 3) := by decide +kernel
theorem dX7_sees_41 : decode cX7_sees 41 = .ok (.iload_n 1, 1) := by decide +kernel
theorem dX7_sees_42 : decode cX7_sees 42 = .ok (.iload_n 2, 1) := by decide +kernel
theorem dX7_sees_43 : decode cX7_sees 43 = .ok (.invokevirtual 198, 3) := by decide +kernel
theorem dX7_sees_46 : decode cX7_sees 46 = .ok (.ifCond .eq 13, 3) := by decide +kernel
theorem dX7_sees_49 : decode cX7_sees 49 = .ok (.aload_n 0, 1) := by decide +kernel
theorem dX7_sees_50 : decode cX7_sees 50 = .ok (.getfield 50, 3) := by decide +kernel
theorem dX7_sees_53 : decode cX7_sees 53 = .ok (.getfield 201, 3) := by decide +kernel
theorem dX7_sees_56 : decode cX7_sees 56 = .ok (.goto 5, 3) := by decide +kernel
theorem dX7_sees_59 : decode cX7_sees 59 = .ok (.bipush (-3), 2) := by decide +kernel
theorem dX7_sees_61 : decode cX7_sees 61 = .ok (.ireturn, 1) := by decide +kernel
theorem dX7_forget_0 : decode cX7_forget 0 = .ok (.aload_n 0, 1) := by decide +kernel
theorem dX7_forget_1 : decode cX7_forget 1 = .ok (.getfield 50, 3) := by decide +kernel
theorem dX7_forget_4 : decode cX7_forget 4 = .ok (.invokevirtual 202, 3) := by decide +kernel
theorem dX7_forget_7 : decode cX7_forget 7 = .ok (.ireturn, 1) := by decide +kernel
theorem dX7_which_0 : decode cX7_which 0 = .ok (.iload_n 1, 1) := by decide +kernel
theorem dX7_which_1 : decode cX7_which 1 = .ok (.ifCond .lt 8, 3) := by decide +kernel
theorem dX7_which_4 : decode cX7_which 4 = .ok (.iload_n 1, 1) := by decide +kernel
theorem dX7_which_5 : decode cX7_which 5 = .ok (.iconst 1, 1) := by decide +kernel
theorem dX7_which_6 : decode cX7_which 6 = .ok (.if_icmp .le 5, 3) := by decide +kernel
theorem dX7_which_9 : decode cX7_which 9 = .ok (.iconst (-1), 1) := by decide +kernel
theorem dX7_which_10 : decode cX7_which 10 = .ok (.ireturn, 1) := by decide +kernel
theorem dX7_which_11 : decode cX7_which 11 = .ok (.aload_n 0, 1) := by decide +kernel
theorem dX7_which_12 : decode cX7_which 12 = .ok (.invokevirtual 203, 3) := by decide +kernel
theorem dX7_which_15 : decode cX7_which 15 = .ok (.istore_n 2, 1) := by decide +kernel
theorem dX7_which_16 : decode cX7_which 16 = .ok (.iload_n 1, 1) := by decide +kernel
theorem dX7_which_17 : decode cX7_which 17 = .ok (.ifCond .ne 8, 3) := by decide +kernel
theorem dX7_which_20 : decode cX7_which 20 = .ok (.iload_n 2, 1) := by decide +kernel
theorem dX7_which_21 : decode cX7_which 21 = .ok (.invokestatic 134, 3) := by decide +kernel
theorem dX7_which_24 : decode cX7_which 24 = .ok (.ireturn, 1) := by decide +kernel
theorem dX7_which_25 : decode cX7_which 25 = .ok (.iload_n 2, 1) := by decide +kernel
theorem dX7_which_26 : decode cX7_which 26 = .ok (.ifCond .ne 8, 3) := by decide +kernel
theorem dX7_which_29 : decode cX7_which 29 = .ok (.bipush (-9), 2) := by decide +kernel
theorem dX7_which_31 : decode cX7_which 31 = .ok (.goto 7, 3) := by decide +kernel
theorem dX7_which_34 : decode cX7_which 34 = .ok (.iload_n 2, 1) := by decide +kernel
theorem dX7_which_35 : decode cX7_which 35 = .ok (.invokestatic 206, 3) := by decide +kernel
theorem dX7_which_38 : decode cX7_which 38 = .ok (.ireturn, 1) := by decide +kernel
theorem dX7_keep_0 : decode cX7_keep 0 = .ok (.iload_n 1, 1) := by decide +kernel
theorem dX7_keep_1 : decode cX7_keep 1 = .ok (.ifCond .lt 8, 3) := by decide +kernel
theorem dX7_keep_4 : decode cX7_keep 4 = .ok (.iload_n 1, 1) := by decide +kernel
theorem dX7_keep_5 : decode cX7_keep 5 = .ok (.iconst 2, 1) := by decide +kernel
theorem dX7_keep_6 : decode cX7_keep 6 = .ok (.if_icmp .lt 5, 3) := by decide +kernel
theorem dX7_keep_9 : decode cX7_keep 9 = .ok (.iconst (-1), 1) := by decide +kernel
theorem dX7_keep_10 : decode cX7_keep 10 = .ok (.ireturn, 1) := by decide +kernel
theorem dX7_keep_11 : decode cX7_keep 11 = .ok (.aload_n 0, 1) := by decide +kernel
theorem dX7_keep_12 : decode cX7_keep 12 = .ok (.getfield 54, 3) := by decide +kernel
theorem dX7_keep_15 : decode cX7_keep 15 = .ok (.iload_n 1, 1) := by decide +kernel
theorem dX7_keep_16 : decode cX7_keep 16 = .ok (.aaload, 1) := by decide +kernel
theorem dX7_keep_17 : decode cX7_keep 17 = .ok (.aload_n 0, 1) := by decide +kernel
theorem dX7_keep_18 : decode cX7_keep 18 = .ok (.getfield 19, 3) := by decide +kernel
theorem dX7_keep_21 : decode cX7_keep 21 = .ok (.invokevirtual 82, 3) := by decide +kernel
theorem dX7_keep_24 : decode cX7_keep 24 = .ok (.aload_n 0, 1) := by decide +kernel
theorem dX7_keep_25 : decode cX7_keep 25 = .ok (.getfield 58, 3) := by decide +kernel
theorem dX7_keep_28 : decode cX7_keep 28 = .ok (.iload_n 1, 1) := by decide +kernel
theorem dX7_keep_29 : decode cX7_keep 29 = .ok (.iconst 1, 1) := by decide +kernel
theorem dX7_keep_30 : decode cX7_keep 30 = .ok (.bastore, 1) := by decide +kernel
theorem dX7_keep_31 : decode cX7_keep 31 = .ok (.aload_n 0, 1) := by decide +kernel
theorem dX7_keep_32 : decode cX7_keep 32 = .ok (.getfield 19, 3) := by decide +kernel
theorem dX7_keep_35 : decode cX7_keep 35 = .ok (.getfield 209, 3) := by decide +kernel
theorem dX7_keep_38 : decode cX7_keep 38 = .ok (.invokestatic 134, 3) := by decide +kernel
theorem dX7_keep_41 : decode cX7_keep 41 = .ok (.ireturn, 1) := by decide +kernel
theorem dX7_back_0 : decode cX7_back 0 = .ok (.iload_n 1, 1) := by decide +kernel
theorem dX7_back_1 : decode cX7_back 1 = .ok (.ifCond .lt 8, 3) := by decide +kernel
theorem dX7_back_4 : decode cX7_back 4 = .ok (.iload_n 1, 1) := by decide +kernel
theorem dX7_back_5 : decode cX7_back 5 = .ok (.iconst 2, 1) := by decide +kernel
theorem dX7_back_6 : decode cX7_back 6 = .ok (.if_icmp .lt 5, 3) := by decide +kernel
theorem dX7_back_9 : decode cX7_back 9 = .ok (.iconst (-1), 1) := by decide +kernel
theorem dX7_back_10 : decode cX7_back 10 = .ok (.ireturn, 1) := by decide +kernel
theorem dX7_back_11 : decode cX7_back 11 = .ok (.aload_n 0, 1) := by decide +kernel
theorem dX7_back_12 : decode cX7_back 12 = .ok (.getfield 58, 3) := by decide +kernel
theorem dX7_back_15 : decode cX7_back 15 = .ok (.iload_n 1, 1) := by decide +kernel
theorem dX7_back_16 : decode cX7_back 16 = .ok (.baload, 1) := by decide +kernel
theorem dX7_back_17 : decode cX7_back 17 = .ok (.ifCond .ne 6, 3) := by decide +kernel
theorem dX7_back_20 : decode cX7_back 20 = .ok (.bipush (-2), 2) := by decide +kernel
theorem dX7_back_22 : decode cX7_back 22 = .ok (.ireturn, 1) := by decide +kernel
theorem dX7_back_23 : decode cX7_back 23 = .ok (.aload_n 0, 1) := by decide +kernel
theorem dX7_back_24 : decode cX7_back 24 = .ok (.getfield 19, 3) := by decide +kernel
theorem dX7_back_27 : decode cX7_back 27 = .ok (.aload_n 0, 1) := by decide +kernel
theorem dX7_back_28 : decode cX7_back 28 = .ok (.getfield 54, 3) := by decide +kernel
theorem dX7_back_31 : decode cX7_back 31 = .ok (.iload_n 1, 1) := by decide +kernel
theorem dX7_back_32 : decode cX7_back 32 = .ok (.aaload, 1) := by decide +kernel
theorem dX7_back_33 : decode cX7_back 33 = .ok (.invokevirtual 82, 3) := by decide +kernel
theorem dX7_back_36 : decode cX7_back 36 = .ok (.aload_n 0, 1) := by decide +kernel
theorem dX7_back_37 : decode cX7_back 37 = .ok (.getfield 29, 3) := by decide +kernel
theorem dX7_back_40 : decode cX7_back 40 = .ok (.invokevirtual 212, 3) := by decide +kernel
theorem dX7_back_43 : decode cX7_back 43 = .ok (.aload_n 0, 1) := by decide +kernel
theorem dX7_back_44 : decode cX7_back 44 = .ok (.getfield 19, 3) := by decide +kernel
theorem dX7_back_47 : decode cX7_back 47 = .ok (.getfield 209, 3) := by decide +kernel
theorem dX7_back_50 : decode cX7_back 50 = .ok (.invokestatic 134, 3) := by decide +kernel
theorem dX7_back_53 : decode cX7_back 53 = .ok (.ireturn, 1) := by decide +kernel
theorem dX7_count_0 : decode cX7_count 0 = .ok (.iload_n 1, 1) := by decide +kernel
theorem dX7_count_1 : decode cX7_count 1 = .ok (.tableswitch 141 0 9 #[55, 63, 71, 79, 87, 98, 106, 117, 125, 133], 55) := by decide +kernel
theorem dX7_count_56 : decode cX7_count 56 = .ok (.aload_n 0, 1) := by decide +kernel
theorem dX7_count_57 : decode cX7_count 57 = .ok (.getfield 19, 3) := by decide +kernel
theorem dX7_count_60 : decode cX7_count 60 = .ok (.getfield 215, 3) := by decide +kernel
theorem dX7_count_63 : decode cX7_count 63 = .ok (.ireturn, 1) := by decide +kernel
theorem dX7_count_64 : decode cX7_count 64 = .ok (.aload_n 0, 1) := by decide +kernel
theorem dX7_count_65 : decode cX7_count 65 = .ok (.getfield 19, 3) := by decide +kernel
theorem dX7_count_68 : decode cX7_count 68 = .ok (.getfield 218, 3) := by decide +kernel
theorem dX7_count_71 : decode cX7_count 71 = .ok (.ireturn, 1) := by decide +kernel
theorem dX7_count_72 : decode cX7_count 72 = .ok (.aload_n 0, 1) := by decide +kernel
theorem dX7_count_73 : decode cX7_count 73 = .ok (.getfield 19, 3) := by decide +kernel
theorem dX7_count_76 : decode cX7_count 76 = .ok (.getfield 221, 3) := by decide +kernel
theorem dX7_count_79 : decode cX7_count 79 = .ok (.ireturn, 1) := by decide +kernel
theorem dX7_count_80 : decode cX7_count 80 = .ok (.aload_n 0, 1) := by decide +kernel
theorem dX7_count_81 : decode cX7_count 81 = .ok (.getfield 19, 3) := by decide +kernel
theorem dX7_count_84 : decode cX7_count 84 = .ok (.getfield 139, 3) := by decide +kernel
theorem dX7_count_87 : decode cX7_count 87 = .ok (.ireturn, 1) := by decide +kernel
theorem dX7_count_88 : decode cX7_count 88 = .ok (.aload_n 0, 1) := by decide +kernel
theorem dX7_count_89 : decode cX7_count 89 = .ok (.getfield 19, 3) := by decide +kernel
theorem dX7_count_92 : decode cX7_count 92 = .ok (.getfield 209, 3) := by decide +kernel
theorem dX7_count_95 : decode cX7_count 95 = .ok (.invokestatic 134, 3) := by decide +kernel
theorem dX7_count_98 : decode cX7_count 98 = .ok (.ireturn, 1) := by decide +kernel
theorem dX7_count_99 : decode cX7_count 99 = .ok (.aload_n 0, 1) := by decide +kernel
theorem dX7_count_100 : decode cX7_count 100 = .ok (.getfield 19, 3) := by decide +kernel
theorem dX7_count_103 : decode cX7_count 103 = .ok (.getfield 224, 3) := by decide +kernel
theorem dX7_count_106 : decode cX7_count 106 = .ok (.ireturn, 1) := by decide +kernel
theorem dX7_count_107 : decode cX7_count 107 = .ok (.aload_n 0, 1) := by decide +kernel
theorem dX7_count_108 : decode cX7_count 108 = .ok (.getfield 19, 3) := by decide +kernel
theorem dX7_count_111 : decode cX7_count 111 = .ok (.getfield 123, 3) := by decide +kernel
theorem dX7_count_114 : decode cX7_count 114 = .ok (.invokestatic 134, 3) := by decide +kernel
theorem dX7_count_117 : decode cX7_count 117 = .ok (.ireturn, 1) := by decide +kernel
theorem dX7_count_118 : decode cX7_count 118 = .ok (.aload_n 0, 1) := by decide +kernel
theorem dX7_count_119 : decode cX7_count 119 = .ok (.getfield 50, 3) := by decide +kernel
theorem dX7_count_122 : decode cX7_count 122 = .ok (.getfield 201, 3) := by decide +kernel
theorem dX7_count_125 : decode cX7_count 125 = .ok (.ireturn, 1) := by decide +kernel
theorem dX7_count_126 : decode cX7_count 126 = .ok (.aload_n 0, 1) := by decide +kernel
theorem dX7_count_127 : decode cX7_count 127 = .ok (.getfield 10, 3) := by decide +kernel
theorem dX7_count_130 : decode cX7_count 130 = .ok (.getfield 66, 3) := by decide +kernel
theorem dX7_count_133 : decode cX7_count 133 = .ok (.ireturn, 1) := by decide +kernel
theorem dX7_count_134 : decode cX7_count 134 = .ok (.aload_n 0, 1) := by decide +kernel
theorem dX7_count_135 : decode cX7_count 135 = .ok (.getfield 29, 3) := by decide +kernel
theorem dX7_count_138 : decode cX7_count 138 = .ok (.getfield 146, 3) := by decide +kernel
theorem dX7_count_141 : decode cX7_count 141 = .ok (.ireturn, 1) := by decide +kernel
theorem dX7_count_142 : decode cX7_count 142 = .ok (.iconst (-1), 1) := by decide +kernel
theorem dX7_count_143 : decode cX7_count 143 = .ok (.ireturn, 1) := by decide +kernel
theorem dX7_has_0 : decode cX7_has 0 = .ok (.iload_n 0, 1) := by decide +kernel
theorem dX7_has_1 : decode cX7_has 1 = .ok (.iload_n 1, 1) := by decide +kernel
theorem dX7_has_2 : decode cX7_has 2 = .ok (.ishr, 1) := by decide +kernel
theorem dX7_has_3 : decode cX7_has 3 = .ok (.iconst 1, 1) := by decide +kernel
theorem dX7_has_4 : decode cX7_has 4 = .ok (.iand, 1) := by decide +kernel
theorem dX7_has_5 : decode cX7_has 5 = .ok (.ifCond .eq 7, 3) := by decide +kernel
theorem dX7_has_8 : decode cX7_has 8 = .ok (.iconst 1, 1) := by decide +kernel
theorem dX7_has_9 : decode cX7_has 9 = .ok (.goto 4, 3) := by decide +kernel
theorem dX7_has_12 : decode cX7_has 12 = .ok (.iconst 0, 1) := by decide +kernel
theorem dX7_has_13 : decode cX7_has 13 = .ok (.ireturn, 1) := by decide +kernel
theorem dX7_role_0 : decode cX7_role 0 = .ok (.iload_n 1, 1) := by decide +kernel
theorem dX7_role_1 : decode cX7_role 1 = .ok (.aload_n 0, 1) := by decide +kernel
theorem dX7_role_2 : decode cX7_role 2 = .ok (.getfield 19, 3) := by decide +kernel
theorem dX7_role_5 : decode cX7_role 5 = .ok (.getfield 221, 3) := by decide +kernel
theorem dX7_role_8 : decode cX7_role 8 = .ok (.if_icmp .ne 5, 3) := by decide +kernel
theorem dX7_role_11 : decode cX7_role 11 = .ok (.iconst 2, 1) := by decide +kernel
theorem dX7_role_12 : decode cX7_role 12 = .ok (.ireturn, 1) := by decide +kernel
theorem dX7_role_13 : decode cX7_role 13 = .ok (.aload_n 0, 1) := by decide +kernel
theorem dX7_role_14 : decode cX7_role 14 = .ok (.getfield 19, 3) := by decide +kernel
theorem dX7_role_17 : decode cX7_role 17 = .ok (.iload_n 1, 1) := by decide +kernel
theorem dX7_role_18 : decode cX7_role 18 = .ok (.invokevirtual 108, 3) := by decide +kernel
theorem dX7_role_21 : decode cX7_role 21 = .ok (.ifCond .eq 7, 3) := by decide +kernel
theorem dX7_role_24 : decode cX7_role 24 = .ok (.iconst 1, 1) := by decide +kernel
theorem dX7_role_25 : decode cX7_role 25 = .ok (.goto 4, 3) := by decide +kernel
theorem dX7_role_28 : decode cX7_role 28 = .ok (.iconst 0, 1) := by decide +kernel
theorem dX7_role_29 : decode cX7_role 29 = .ok (.ireturn, 1) := by decide +kernel
theorem dX7_hasWay_0 : decode cX7_hasWay 0 = .ok (.aload_n 0, 1) := by decide +kernel
theorem dX7_hasWay_1 : decode cX7_hasWay 1 = .ok (.getfield 43, 3) := by decide +kernel
theorem dX7_hasWay_4 : decode cX7_hasWay 4 = .ok (.aload_n 0, 1) := by decide +kernel
theorem dX7_hasWay_5 : decode cX7_hasWay 5 = .ok (.getfield 19, 3) := by decide +kernel
theorem dX7_hasWay_8 : decode cX7_hasWay 8 = .ok (.aload_n 0, 1) := by decide +kernel
theorem dX7_hasWay_9 : decode cX7_hasWay 9 = .ok (.getfield 19, 3) := by decide +kernel
theorem dX7_hasWay_12 : decode cX7_hasWay 12 = .ok (.getfield 102, 3) := by decide +kernel
theorem dX7_hasWay_15 : decode cX7_hasWay 15 = .ok (.invokevirtual 168, 3) := by decide +kernel
theorem dX7_hasWay_18 : decode cX7_hasWay 18 = .ok (.aload_n 0, 1) := by decide +kernel
theorem dX7_hasWay_19 : decode cX7_hasWay 19 = .ok (.getfield 43, 3) := by decide +kernel
theorem dX7_hasWay_22 : decode cX7_hasWay 22 = .ok (.iload_n 1, 1) := by decide +kernel
theorem dX7_hasWay_23 : decode cX7_hasWay 23 = .ok (.invokevirtual 227, 3) := by decide +kernel
theorem dX7_hasWay_26 : decode cX7_hasWay 26 = .ok (.ireturn, 1) := by decide +kernel
theorem dX7_far_0 : decode cX7_far 0 = .ok (.aload_n 0, 1) := by decide +kernel
theorem dX7_far_1 : decode cX7_far 1 = .ok (.getfield 43, 3) := by decide +kernel
theorem dX7_far_4 : decode cX7_far 4 = .ok (.aload_n 0, 1) := by decide +kernel
theorem dX7_far_5 : decode cX7_far 5 = .ok (.getfield 19, 3) := by decide +kernel
theorem dX7_far_8 : decode cX7_far 8 = .ok (.aload_n 0, 1) := by decide +kernel
theorem dX7_far_9 : decode cX7_far 9 = .ok (.getfield 19, 3) := by decide +kernel
theorem dX7_far_12 : decode cX7_far 12 = .ok (.getfield 102, 3) := by decide +kernel
theorem dX7_far_15 : decode cX7_far 15 = .ok (.iconst 1, 1) := by decide +kernel
theorem dX7_far_16 : decode cX7_far 16 = .ok (.aload_n 0, 1) := by decide +kernel
theorem dX7_far_17 : decode cX7_far 17 = .ok (.getfield 19, 3) := by decide +kernel
theorem dX7_far_20 : decode cX7_far 20 = .ok (.getfield 221, 3) := by decide +kernel
theorem dX7_far_23 : decode cX7_far 23 = .ok (.ishl, 1) := by decide +kernel
theorem dX7_far_24 : decode cX7_far 24 = .ok (.invokevirtual 230, 3) := by decide +kernel
theorem dX7_far_27 : decode cX7_far 27 = .ok (.aload_n 0, 1) := by decide +kernel
theorem dX7_far_28 : decode cX7_far 28 = .ok (.getfield 43, 3) := by decide +kernel
theorem dX7_far_31 : decode cX7_far 31 = .ok (.iload_n 1, 1) := by decide +kernel
theorem dX7_far_32 : decode cX7_far 32 = .ok (.invokevirtual 171, 3) := by decide +kernel
theorem dX7_far_35 : decode cX7_far 35 = .ok (.ireturn, 1) := by decide +kernel
theorem dX7_fittingNodes_0 : decode cX7_fittingNodes 0 = .ok (.aload_n 0, 1) := by decide +kernel
theorem dX7_fittingNodes_1 : decode cX7_fittingNodes 1 = .ok (.getfield 43, 3) := by decide +kernel
theorem dX7_fittingNodes_4 : decode cX7_fittingNodes 4 = .ok (.aload_n 0, 1) := by decide +kernel
theorem dX7_fittingNodes_5 : decode cX7_fittingNodes 5 = .ok (.getfield 19, 3) := by decide +kernel
theorem dX7_fittingNodes_8 : decode cX7_fittingNodes 8 = .ok (.aload_n 0, 1) := by decide +kernel
theorem dX7_fittingNodes_9 : decode cX7_fittingNodes 9 = .ok (.getfield 19, 3) := by decide +kernel
theorem dX7_fittingNodes_12 : decode cX7_fittingNodes 12 = .ok (.getfield 102, 3) := by decide +kernel
theorem dX7_fittingNodes_15 : decode cX7_fittingNodes 15 = .ok (.invokevirtual 168, 3) := by decide +kernel
theorem dX7_fittingNodes_18 : decode cX7_fittingNodes 18 = .ok (.iconst 0, 1) := by decide +kernel
theorem dX7_fittingNodes_19 : decode cX7_fittingNodes 19 = .ok (.istore_n 1, 1) := by decide +kernel
theorem dX7_fittingNodes_20 : decode cX7_fittingNodes 20 = .ok (.iconst 0, 1) := by decide +kernel
theorem dX7_fittingNodes_21 : decode cX7_fittingNodes 21 = .ok (.istore_n 2, 1) := by decide +kernel
theorem dX7_fittingNodes_22 : decode cX7_fittingNodes 22 = .ok (.iload_n 2, 1) := by decide +kernel
theorem dX7_fittingNodes_23 : decode cX7_fittingNodes 23 = .ok (.aload_n 0, 1) := by decide +kernel
theorem dX7_fittingNodes_24 : decode cX7_fittingNodes 24 = .ok (.getfield 19, 3) := by decide +kernel
theorem dX7_fittingNodes_27 : decode cX7_fittingNodes 27 = .ok (.getfield 215, 3) := by decide +kernel
theorem dX7_fittingNodes_30 : decode cX7_fittingNodes 30 = .ok (.if_icmp .ge 49, 3) := by decide +kernel
theorem dX7_fittingNodes_33 : decode cX7_fittingNodes 33 = .ok (.aload_n 0, 1) := by decide +kernel
theorem dX7_fittingNodes_34 : decode cX7_fittingNodes 34 = .ok (.iload_n 2, 1) := by decide +kernel
theorem dX7_fittingNodes_35 : decode cX7_fittingNodes 35 = .ok (.invokevirtual 88, 3) := by decide +kernel
theorem dX7_fittingNodes_38 : decode cX7_fittingNodes 38 = .ok (.ifCond .ne 35, 3) := by decide +kernel
theorem dX7_fittingNodes_41 : decode cX7_fittingNodes 41 = .ok (.aload_n 0, 1) := by decide +kernel
theorem dX7_fittingNodes_42 : decode cX7_fittingNodes 42 = .ok (.getfield 50, 3) := by decide +kernel
theorem dX7_fittingNodes_45 : decode cX7_fittingNodes 45 = .ok (.aload_n 0, 1) := by decide +kernel
theorem dX7_fittingNodes_46 : decode cX7_fittingNodes 46 = .ok (.getfield 43, 3) := by decide +kernel
theorem dX7_fittingNodes_49 : decode cX7_fittingNodes 49 = .ok (.iload_n 2, 1) := by decide +kernel
theorem dX7_fittingNodes_50 : decode cX7_fittingNodes 50 = .ok (.invokevirtual 171, 3) := by decide +kernel
theorem dX7_fittingNodes_53 : decode cX7_fittingNodes 53 = .ok (.aload_n 0, 1) := by decide +kernel
theorem dX7_fittingNodes_54 : decode cX7_fittingNodes 54 = .ok (.getfield 43, 3) := by decide +kernel
theorem dX7_fittingNodes_57 : decode cX7_fittingNodes 57 = .ok (.iload_n 2, 1) := by decide +kernel
theorem dX7_fittingNodes_58 : decode cX7_fittingNodes 58 = .ok (.invokevirtual 174, 3) := by decide +kernel
theorem dX7_fittingNodes_61 : decode cX7_fittingNodes 61 = .ok (.invokevirtual 234, 3) := by decide +kernel
theorem dX7_fittingNodes_64 : decode cX7_fittingNodes 64 = .ok (.ifCond .eq 9, 3) := by decide +kernel
theorem dX7_fittingNodes_67 : decode cX7_fittingNodes 67 = .ok (.iload_n 1, 1) := by decide +kernel
theorem dX7_fittingNodes_68 : decode cX7_fittingNodes 68 = .ok (.iconst 1, 1) := by decide +kernel
theorem dX7_fittingNodes_69 : decode cX7_fittingNodes 69 = .ok (.iload_n 2, 1) := by decide +kernel
theorem dX7_fittingNodes_70 : decode cX7_fittingNodes 70 = .ok (.ishl, 1) := by decide +kernel
theorem dX7_fittingNodes_71 : decode cX7_fittingNodes 71 = .ok (.ior, 1) := by decide +kernel
theorem dX7_fittingNodes_72 : decode cX7_fittingNodes 72 = .ok (.istore_n 1, 1) := by decide +kernel
theorem dX7_fittingNodes_73 : decode cX7_fittingNodes 73 = .ok (.iinc 2 1, 3) := by decide +kernel
theorem dX7_fittingNodes_76 : decode cX7_fittingNodes 76 = .ok (.goto (-54), 3) := by decide +kernel
theorem dX7_fittingNodes_79 : decode cX7_fittingNodes 79 = .ok (.iload_n 1, 1) := by decide +kernel
theorem dX7_fittingNodes_80 : decode cX7_fittingNodes 80 = .ok (.ireturn, 1) := by decide +kernel
theorem dJ6_numberOfTrailingZeros_0f7a4_0 : decode cJ6_numberOfTrailingZeros_0f7a4 0 = .ok (.iload_n 0, 1) := by decide +kernel
theorem dJ6_numberOfTrailingZeros_0f7a4_1 : decode cJ6_numberOfTrailingZeros_0f7a4 1 = .ok (.iconst (-1), 1) := by decide +kernel
theorem dJ6_numberOfTrailingZeros_0f7a4_2 : decode cJ6_numberOfTrailingZeros_0f7a4 2 = .ok (.ixor, 1) := by decide +kernel
theorem dJ6_numberOfTrailingZeros_0f7a4_3 : decode cJ6_numberOfTrailingZeros_0f7a4 3 = .ok (.iload_n 0, 1) := by decide +kernel
theorem dJ6_numberOfTrailingZeros_0f7a4_4 : decode cJ6_numberOfTrailingZeros_0f7a4 4 = .ok (.iconst 1, 1) := by decide +kernel
theorem dJ6_numberOfTrailingZeros_0f7a4_5 : decode cJ6_numberOfTrailingZeros_0f7a4 5 = .ok (.isub, 1) := by decide +kernel
theorem dJ6_numberOfTrailingZeros_0f7a4_6 : decode cJ6_numberOfTrailingZeros_0f7a4 6 = .ok (.iand, 1) := by decide +kernel
theorem dJ6_numberOfTrailingZeros_0f7a4_7 : decode cJ6_numberOfTrailingZeros_0f7a4 7 = .ok (.istore_n 0, 1) := by decide +kernel
theorem dJ6_numberOfTrailingZeros_0f7a4_8 : decode cJ6_numberOfTrailingZeros_0f7a4 8 = .ok (.iload_n 0, 1) := by decide +kernel
theorem dJ6_numberOfTrailingZeros_0f7a4_9 : decode cJ6_numberOfTrailingZeros_0f7a4 9 = .ok (.ifCond .gt 8, 3) := by decide +kernel
theorem dJ6_numberOfTrailingZeros_0f7a4_12 : decode cJ6_numberOfTrailingZeros_0f7a4 12 = .ok (.iload_n 0, 1) := by decide +kernel
theorem dJ6_numberOfTrailingZeros_0f7a4_13 : decode cJ6_numberOfTrailingZeros_0f7a4 13 = .ok (.bipush 32, 2) := by decide +kernel
theorem dJ6_numberOfTrailingZeros_0f7a4_15 : decode cJ6_numberOfTrailingZeros_0f7a4 15 = .ok (.iand, 1) := by decide +kernel
theorem dJ6_numberOfTrailingZeros_0f7a4_16 : decode cJ6_numberOfTrailingZeros_0f7a4 16 = .ok (.ireturn, 1) := by decide +kernel
theorem dJ6_numberOfTrailingZeros_0f7a4_17 : decode cJ6_numberOfTrailingZeros_0f7a4 17 = .ok (.iconst 1, 1) := by decide +kernel
theorem dJ6_numberOfTrailingZeros_0f7a4_18 : decode cJ6_numberOfTrailingZeros_0f7a4 18 = .ok (.istore_n 1, 1) := by decide +kernel
theorem dJ6_numberOfTrailingZeros_0f7a4_19 : decode cJ6_numberOfTrailingZeros_0f7a4 19 = .ok (.iload_n 0, 1) := by decide +kernel
theorem dJ6_numberOfTrailingZeros_0f7a4_20 : decode cJ6_numberOfTrailingZeros_0f7a4 20 = .ok (.ldc_w 264, 3) := by decide +kernel
theorem dJ6_numberOfTrailingZeros_0f7a4_23 : decode cJ6_numberOfTrailingZeros_0f7a4 23 = .ok (.if_icmp .le 11, 3) := by decide +kernel
theorem dJ6_numberOfTrailingZeros_0f7a4_26 : decode cJ6_numberOfTrailingZeros_0f7a4 26 = .ok (.iinc 1 16, 3) := by decide +kernel
theorem dJ6_numberOfTrailingZeros_0f7a4_29 : decode cJ6_numberOfTrailingZeros_0f7a4 29 = .ok (.iload_n 0, 1) := by decide +kernel
theorem dJ6_numberOfTrailingZeros_0f7a4_30 : decode cJ6_numberOfTrailingZeros_0f7a4 30 = .ok (.bipush 16, 2) := by decide +kernel
theorem dJ6_numberOfTrailingZeros_0f7a4_32 : decode cJ6_numberOfTrailingZeros_0f7a4 32 = .ok (.iushr, 1) := by decide +kernel
theorem dJ6_numberOfTrailingZeros_0f7a4_33 : decode cJ6_numberOfTrailingZeros_0f7a4 33 = .ok (.istore_n 0, 1) := by decide +kernel
theorem dJ6_numberOfTrailingZeros_0f7a4_34 : decode cJ6_numberOfTrailingZeros_0f7a4 34 = .ok (.iload_n 0, 1) := by decide +kernel
theorem dJ6_numberOfTrailingZeros_0f7a4_35 : decode cJ6_numberOfTrailingZeros_0f7a4 35 = .ok (.sipush 256, 3) := by decide +kernel
theorem dJ6_numberOfTrailingZeros_0f7a4_38 : decode cJ6_numberOfTrailingZeros_0f7a4 38 = .ok (.if_icmp .le 11, 3) := by decide +kernel
theorem dJ6_numberOfTrailingZeros_0f7a4_41 : decode cJ6_numberOfTrailingZeros_0f7a4 41 = .ok (.iinc 1 8, 3) := by decide +kernel
theorem dJ6_numberOfTrailingZeros_0f7a4_44 : decode cJ6_numberOfTrailingZeros_0f7a4 44 = .ok (.iload_n 0, 1) := by decide +kernel
theorem dJ6_numberOfTrailingZeros_0f7a4_45 : decode cJ6_numberOfTrailingZeros_0f7a4 45 = .ok (.bipush 8, 2) := by decide +kernel
theorem dJ6_numberOfTrailingZeros_0f7a4_47 : decode cJ6_numberOfTrailingZeros_0f7a4 47 = .ok (.iushr, 1) := by decide +kernel
theorem dJ6_numberOfTrailingZeros_0f7a4_48 : decode cJ6_numberOfTrailingZeros_0f7a4 48 = .ok (.istore_n 0, 1) := by decide +kernel
theorem dJ6_numberOfTrailingZeros_0f7a4_49 : decode cJ6_numberOfTrailingZeros_0f7a4 49 = .ok (.iload_n 0, 1) := by decide +kernel
theorem dJ6_numberOfTrailingZeros_0f7a4_50 : decode cJ6_numberOfTrailingZeros_0f7a4 50 = .ok (.bipush 16, 2) := by decide +kernel
theorem dJ6_numberOfTrailingZeros_0f7a4_52 : decode cJ6_numberOfTrailingZeros_0f7a4 52 = .ok (.if_icmp .le 10, 3) := by decide +kernel
theorem dJ6_numberOfTrailingZeros_0f7a4_55 : decode cJ6_numberOfTrailingZeros_0f7a4 55 = .ok (.iinc 1 4, 3) := by decide +kernel
theorem dJ6_numberOfTrailingZeros_0f7a4_58 : decode cJ6_numberOfTrailingZeros_0f7a4 58 = .ok (.iload_n 0, 1) := by decide +kernel
theorem dJ6_numberOfTrailingZeros_0f7a4_59 : decode cJ6_numberOfTrailingZeros_0f7a4 59 = .ok (.iconst 4, 1) := by decide +kernel
theorem dJ6_numberOfTrailingZeros_0f7a4_60 : decode cJ6_numberOfTrailingZeros_0f7a4 60 = .ok (.iushr, 1) := by decide +kernel
theorem dJ6_numberOfTrailingZeros_0f7a4_61 : decode cJ6_numberOfTrailingZeros_0f7a4 61 = .ok (.istore_n 0, 1) := by decide +kernel
theorem dJ6_numberOfTrailingZeros_0f7a4_62 : decode cJ6_numberOfTrailingZeros_0f7a4 62 = .ok (.iload_n 0, 1) := by decide +kernel
theorem dJ6_numberOfTrailingZeros_0f7a4_63 : decode cJ6_numberOfTrailingZeros_0f7a4 63 = .ok (.iconst 4, 1) := by decide +kernel
theorem dJ6_numberOfTrailingZeros_0f7a4_64 : decode cJ6_numberOfTrailingZeros_0f7a4 64 = .ok (.if_icmp .le 10, 3) := by decide +kernel
theorem dJ6_numberOfTrailingZeros_0f7a4_67 : decode cJ6_numberOfTrailingZeros_0f7a4 67 = .ok (.iinc 1 2, 3) := by decide +kernel
theorem dJ6_numberOfTrailingZeros_0f7a4_70 : decode cJ6_numberOfTrailingZeros_0f7a4 70 = .ok (.iload_n 0, 1) := by decide +kernel
theorem dJ6_numberOfTrailingZeros_0f7a4_71 : decode cJ6_numberOfTrailingZeros_0f7a4 71 = .ok (.iconst 2, 1) := by decide +kernel
theorem dJ6_numberOfTrailingZeros_0f7a4_72 : decode cJ6_numberOfTrailingZeros_0f7a4 72 = .ok (.iushr, 1) := by decide +kernel
theorem dJ6_numberOfTrailingZeros_0f7a4_73 : decode cJ6_numberOfTrailingZeros_0f7a4 73 = .ok (.istore_n 0, 1) := by decide +kernel
theorem dJ6_numberOfTrailingZeros_0f7a4_74 : decode cJ6_numberOfTrailingZeros_0f7a4 74 = .ok (.iload_n 1, 1) := by decide +kernel
theorem dJ6_numberOfTrailingZeros_0f7a4_75 : decode cJ6_numberOfTrailingZeros_0f7a4 75 = .ok (.iload_n 0, 1) := by decide +kernel
theorem dJ6_numberOfTrailingZeros_0f7a4_76 : decode cJ6_numberOfTrailingZeros_0f7a4 76 = .ok (.iconst 1, 1) := by decide +kernel
theorem dJ6_numberOfTrailingZeros_0f7a4_77 : decode cJ6_numberOfTrailingZeros_0f7a4 77 = .ok (.iushr, 1) := by decide +kernel
theorem dJ6_numberOfTrailingZeros_0f7a4_78 : decode cJ6_numberOfTrailingZeros_0f7a4 78 = .ok (.iadd, 1) := by decide +kernel
theorem dJ6_numberOfTrailingZeros_0f7a4_79 : decode cJ6_numberOfTrailingZeros_0f7a4 79 = .ok (.ireturn, 1) := by decide +kernel
theorem dJ6_bitCount_0f7a4_0 : decode cJ6_bitCount_0f7a4 0 = .ok (.iload_n 0, 1) := by decide +kernel
theorem dJ6_bitCount_0f7a4_1 : decode cJ6_bitCount_0f7a4 1 = .ok (.iload_n 0, 1) := by decide +kernel
theorem dJ6_bitCount_0f7a4_2 : decode cJ6_bitCount_0f7a4 2 = .ok (.iconst 1, 1) := by decide +kernel
theorem dJ6_bitCount_0f7a4_3 : decode cJ6_bitCount_0f7a4 3 = .ok (.iushr, 1) := by decide +kernel
theorem dJ6_bitCount_0f7a4_4 : decode cJ6_bitCount_0f7a4 4 = .ok (.ldc_w 265, 3) := by decide +kernel
theorem dJ6_bitCount_0f7a4_7 : decode cJ6_bitCount_0f7a4 7 = .ok (.iand, 1) := by decide +kernel
theorem dJ6_bitCount_0f7a4_8 : decode cJ6_bitCount_0f7a4 8 = .ok (.isub, 1) := by decide +kernel
theorem dJ6_bitCount_0f7a4_9 : decode cJ6_bitCount_0f7a4 9 = .ok (.istore_n 0, 1) := by decide +kernel
theorem dJ6_bitCount_0f7a4_10 : decode cJ6_bitCount_0f7a4 10 = .ok (.iload_n 0, 1) := by decide +kernel
theorem dJ6_bitCount_0f7a4_11 : decode cJ6_bitCount_0f7a4 11 = .ok (.ldc_w 266, 3) := by decide +kernel
theorem dJ6_bitCount_0f7a4_14 : decode cJ6_bitCount_0f7a4 14 = .ok (.iand, 1) := by decide +kernel
theorem dJ6_bitCount_0f7a4_15 : decode cJ6_bitCount_0f7a4 15 = .ok (.iload_n 0, 1) := by decide +kernel
theorem dJ6_bitCount_0f7a4_16 : decode cJ6_bitCount_0f7a4 16 = .ok (.iconst 2, 1) := by decide +kernel
theorem dJ6_bitCount_0f7a4_17 : decode cJ6_bitCount_0f7a4 17 = .ok (.iushr, 1) := by decide +kernel
theorem dJ6_bitCount_0f7a4_18 : decode cJ6_bitCount_0f7a4 18 = .ok (.ldc_w 266, 3) := by decide +kernel
theorem dJ6_bitCount_0f7a4_21 : decode cJ6_bitCount_0f7a4 21 = .ok (.iand, 1) := by decide +kernel
theorem dJ6_bitCount_0f7a4_22 : decode cJ6_bitCount_0f7a4 22 = .ok (.iadd, 1) := by decide +kernel
theorem dJ6_bitCount_0f7a4_23 : decode cJ6_bitCount_0f7a4 23 = .ok (.istore_n 0, 1) := by decide +kernel
theorem dJ6_bitCount_0f7a4_24 : decode cJ6_bitCount_0f7a4 24 = .ok (.iload_n 0, 1) := by decide +kernel
theorem dJ6_bitCount_0f7a4_25 : decode cJ6_bitCount_0f7a4 25 = .ok (.iload_n 0, 1) := by decide +kernel
theorem dJ6_bitCount_0f7a4_26 : decode cJ6_bitCount_0f7a4 26 = .ok (.iconst 4, 1) := by decide +kernel
theorem dJ6_bitCount_0f7a4_27 : decode cJ6_bitCount_0f7a4 27 = .ok (.iushr, 1) := by decide +kernel
theorem dJ6_bitCount_0f7a4_28 : decode cJ6_bitCount_0f7a4 28 = .ok (.iadd, 1) := by decide +kernel
theorem dJ6_bitCount_0f7a4_29 : decode cJ6_bitCount_0f7a4 29 = .ok (.ldc_w 267, 3) := by decide +kernel
theorem dJ6_bitCount_0f7a4_32 : decode cJ6_bitCount_0f7a4 32 = .ok (.iand, 1) := by decide +kernel
theorem dJ6_bitCount_0f7a4_33 : decode cJ6_bitCount_0f7a4 33 = .ok (.istore_n 0, 1) := by decide +kernel
theorem dJ6_bitCount_0f7a4_34 : decode cJ6_bitCount_0f7a4 34 = .ok (.iload_n 0, 1) := by decide +kernel
theorem dJ6_bitCount_0f7a4_35 : decode cJ6_bitCount_0f7a4 35 = .ok (.iload_n 0, 1) := by decide +kernel
theorem dJ6_bitCount_0f7a4_36 : decode cJ6_bitCount_0f7a4 36 = .ok (.bipush 8, 2) := by decide +kernel
theorem dJ6_bitCount_0f7a4_38 : decode cJ6_bitCount_0f7a4 38 = .ok (.iushr, 1) := by decide +kernel
theorem dJ6_bitCount_0f7a4_39 : decode cJ6_bitCount_0f7a4 39 = .ok (.iadd, 1) := by decide +kernel
theorem dJ6_bitCount_0f7a4_40 : decode cJ6_bitCount_0f7a4 40 = .ok (.istore_n 0, 1) := by decide +kernel
theorem dJ6_bitCount_0f7a4_41 : decode cJ6_bitCount_0f7a4 41 = .ok (.iload_n 0, 1) := by decide +kernel
theorem dJ6_bitCount_0f7a4_42 : decode cJ6_bitCount_0f7a4 42 = .ok (.iload_n 0, 1) := by decide +kernel
theorem dJ6_bitCount_0f7a4_43 : decode cJ6_bitCount_0f7a4 43 = .ok (.bipush 16, 2) := by decide +kernel
theorem dJ6_bitCount_0f7a4_45 : decode cJ6_bitCount_0f7a4 45 = .ok (.iushr, 1) := by decide +kernel
theorem dJ6_bitCount_0f7a4_46 : decode cJ6_bitCount_0f7a4 46 = .ok (.iadd, 1) := by decide +kernel
theorem dJ6_bitCount_0f7a4_47 : decode cJ6_bitCount_0f7a4 47 = .ok (.istore_n 0, 1) := by decide +kernel
theorem dJ6_bitCount_0f7a4_48 : decode cJ6_bitCount_0f7a4 48 = .ok (.iload_n 0, 1) := by decide +kernel
theorem dJ6_bitCount_0f7a4_49 : decode cJ6_bitCount_0f7a4 49 = .ok (.bipush 63, 2) := by decide +kernel
theorem dJ6_bitCount_0f7a4_51 : decode cJ6_bitCount_0f7a4 51 = .ok (.iand, 1) := by decide +kernel
theorem dJ6_bitCount_0f7a4_52 : decode cJ6_bitCount_0f7a4 52 = .ok (.ireturn, 1) := by decide +kernel
theorem dJ0_length_8abf5_0 : decode cJ0_length_8abf5 0 = .ok (.aload_n 0, 1) := by decide +kernel
theorem dJ0_length_8abf5_1 : decode cJ0_length_8abf5 1 = .ok (.getfield 9, 3) := by decide +kernel
theorem dJ0_length_8abf5_4 : decode cJ0_length_8abf5 4 = .ok (.arraylength, 1) := by decide +kernel
theorem dJ0_length_8abf5_5 : decode cJ0_length_8abf5 5 = .ok (.aload_n 0, 1) := by decide +kernel
theorem dJ0_length_8abf5_6 : decode cJ0_length_8abf5 6 = .ok (.invokevirtual 335, 3) := by decide +kernel
theorem dJ0_length_8abf5_9 : decode cJ0_length_8abf5 9 = .ok (.ishr, 1) := by decide +kernel
theorem dJ0_length_8abf5_10 : decode cJ0_length_8abf5 10 = .ok (.ireturn, 1) := by decide +kernel
theorem dJ0_charAt_5068e_0 : decode cJ0_charAt_5068e 0 = .ok (.aload_n 0, 1) := by decide +kernel
theorem dJ0_charAt_5068e_1 : decode cJ0_charAt_5068e 1 = .ok (.invokevirtual 492, 3) := by decide +kernel
theorem dJ0_charAt_5068e_4 : decode cJ0_charAt_5068e 4 = .ok (.ifCond .eq 12, 3) := by decide +kernel
theorem dJ0_charAt_5068e_7 : decode cJ0_charAt_5068e 7 = .ok (.aload_n 0, 1) := by decide +kernel
theorem dJ0_charAt_5068e_8 : decode cJ0_charAt_5068e 8 = .ok (.getfield 9, 3) := by decide +kernel
theorem dJ0_charAt_5068e_11 : decode cJ0_charAt_5068e 11 = .ok (.iload_n 1, 1) := by decide +kernel
theorem dJ0_charAt_5068e_12 : decode cJ0_charAt_5068e 12 = .ok (.invokestatic 495, 3) := by decide +kernel
theorem dJ0_charAt_5068e_15 : decode cJ0_charAt_5068e 15 = .ok (.ireturn, 1) := by decide +kernel
theorem dJ0_charAt_5068e_16 : decode cJ0_charAt_5068e 16 = .ok (.aload_n 0, 1) := by decide +kernel
theorem dJ0_charAt_5068e_17 : decode cJ0_charAt_5068e 17 = .ok (.getfield 9, 3) := by decide +kernel
theorem dJ0_charAt_5068e_20 : decode cJ0_charAt_5068e 20 = .ok (.iload_n 1, 1) := by decide +kernel
theorem dJ0_charAt_5068e_21 : decode cJ0_charAt_5068e 21 = .ok (.invokestatic 498, 3) := by decide +kernel
theorem dJ0_charAt_5068e_24 : decode cJ0_charAt_5068e 24 = .ok (.ireturn, 1) := by decide +kernel
theorem dJ0_coder_7d493_0 : decode cJ0_coder_7d493 0 = .ok (.getstatic 38, 3) := by decide +kernel
theorem dJ0_coder_7d493_3 : decode cJ0_coder_7d493 3 = .ok (.ifCond .eq 10, 3) := by decide +kernel
theorem dJ0_coder_7d493_6 : decode cJ0_coder_7d493 6 = .ok (.aload_n 0, 1) := by decide +kernel
theorem dJ0_coder_7d493_7 : decode cJ0_coder_7d493 7 = .ok (.getfield 15, 3) := by decide +kernel
theorem dJ0_coder_7d493_10 : decode cJ0_coder_7d493 10 = .ok (.goto 4, 3) := by decide +kernel
theorem dJ0_coder_7d493_13 : decode cJ0_coder_7d493 13 = .ok (.iconst 1, 1) := by decide +kernel
theorem dJ0_coder_7d493_14 : decode cJ0_coder_7d493 14 = .ok (.ireturn, 1) := by decide +kernel
theorem dJ0_isLatin1_aae02_0 : decode cJ0_isLatin1_aae02 0 = .ok (.getstatic 38, 3) := by decide +kernel
theorem dJ0_isLatin1_aae02_3 : decode cJ0_isLatin1_aae02 3 = .ok (.ifCond .eq 14, 3) := by decide +kernel
theorem dJ0_isLatin1_aae02_6 : decode cJ0_isLatin1_aae02 6 = .ok (.aload_n 0, 1) := by decide +kernel
theorem dJ0_isLatin1_aae02_7 : decode cJ0_isLatin1_aae02 7 = .ok (.getfield 15, 3) := by decide +kernel
theorem dJ0_isLatin1_aae02_10 : decode cJ0_isLatin1_aae02 10 = .ok (.ifCond .ne 7, 3) := by decide +kernel
theorem dJ0_isLatin1_aae02_13 : decode cJ0_isLatin1_aae02 13 = .ok (.iconst 1, 1) := by decide +kernel
theorem dJ0_isLatin1_aae02_14 : decode cJ0_isLatin1_aae02 14 = .ok (.goto 4, 3) := by decide +kernel
theorem dJ0_isLatin1_aae02_17 : decode cJ0_isLatin1_aae02 17 = .ok (.iconst 0, 1) := by decide +kernel
theorem dJ0_isLatin1_aae02_18 : decode cJ0_isLatin1_aae02 18 = .ok (.ireturn, 1) := by decide +kernel
theorem dJ0_checkIndex_df160_0 : decode cJ0_checkIndex_df160 0 = .ok (.iload_n 0, 1) := by decide +kernel
theorem dJ0_checkIndex_df160_1 : decode cJ0_checkIndex_df160 1 = .ok (.iload_n 1, 1) := by decide +kernel
theorem dJ0_checkIndex_df160_2 : decode cJ0_checkIndex_df160 2 = .ok (.getstatic 1053, 3) := by decide +kernel
theorem dJ0_checkIndex_df160_5 : decode cJ0_checkIndex_df160 5 = .ok (.invokestatic 1059, 3) := by decide +kernel
theorem dJ0_checkIndex_df160_8 : decode cJ0_checkIndex_df160 8 = .ok (.pop, 1) := by decide +kernel
theorem dJ0_checkIndex_df160_9 : decode cJ0_checkIndex_df160 9 = .ok (.return_, 1) := by decide +kernel
theorem dJ1_charAt_3b067_0 : decode cJ1_charAt_3b067 0 = .ok (.iload_n 1, 1) := by decide +kernel
theorem dJ1_charAt_3b067_1 : decode cJ1_charAt_3b067 1 = .ok (.aload_n 0, 1) := by decide +kernel
theorem dJ1_charAt_3b067_2 : decode cJ1_charAt_3b067 2 = .ok (.arraylength, 1) := by decide +kernel
theorem dJ1_charAt_3b067_3 : decode cJ1_charAt_3b067 3 = .ok (.invokestatic 9, 3) := by decide +kernel
theorem dJ1_charAt_3b067_6 : decode cJ1_charAt_3b067 6 = .ok (.aload_n 0, 1) := by decide +kernel
theorem dJ1_charAt_3b067_7 : decode cJ1_charAt_3b067 7 = .ok (.iload_n 1, 1) := by decide +kernel
theorem dJ1_charAt_3b067_8 : decode cJ1_charAt_3b067 8 = .ok (.baload, 1) := by decide +kernel
theorem dJ1_charAt_3b067_9 : decode cJ1_charAt_3b067 9 = .ok (.sipush 255, 3) := by decide +kernel
theorem dJ1_charAt_3b067_12 : decode cJ1_charAt_3b067 12 = .ok (.iand, 1) := by decide +kernel
theorem dJ1_charAt_3b067_13 : decode cJ1_charAt_3b067 13 = .ok (.i2c, 1) := by decide +kernel
theorem dJ1_charAt_3b067_14 : decode cJ1_charAt_3b067 14 = .ok (.ireturn, 1) := by decide +kernel
theorem dJ2_getChar_3b067_0 : decode cJ2_getChar_3b067 0 = .ok (.getstatic 44, 3) := by decide +kernel
theorem dJ2_getChar_3b067_3 : decode cJ2_getChar_3b067 3 = .ok (.ifCond .ne 25, 3) := by decide +kernel
theorem dJ2_getChar_3b067_6 : decode cJ2_getChar_3b067 6 = .ok (.iload_n 1, 1) := by decide +kernel
theorem dJ2_getChar_3b067_7 : decode cJ2_getChar_3b067 7 = .ok (.ifCond .lt 11, 3) := by decide +kernel
theorem dJ2_getChar_3b067_10 : decode cJ2_getChar_3b067 10 = .ok (.iload_n 1, 1) := by decide +kernel
theorem dJ2_getChar_3b067_11 : decode cJ2_getChar_3b067 11 = .ok (.aload_n 0, 1) := by decide +kernel
theorem dJ2_getChar_3b067_12 : decode cJ2_getChar_3b067 12 = .ok (.invokestatic 48, 3) := by decide +kernel
theorem dJ2_getChar_3b067_15 : decode cJ2_getChar_3b067 15 = .ok (.if_icmp .lt 13, 3) := by decide +kernel
theorem dJ2_getChar_3b067_18 : decode cJ2_getChar_3b067 18 = .ok (.new 52, 3) := by decide +kernel
theorem dJ2_getChar_3b067_21 : decode cJ2_getChar_3b067 21 = .ok (.dup, 1) := by decide +kernel
theorem dJ2_getChar_3b067_22 : decode cJ2_getChar_3b067 22 = .ok (.ldc 54, 2) := by decide +kernel
theorem dJ2_getChar_3b067_24 : decode cJ2_getChar_3b067 24 = .ok (.invokespecial 56, 3) := by decide +kernel
theorem dJ2_getChar_3b067_27 : decode cJ2_getChar_3b067 27 = .ok (.athrow, 1) := by decide +kernel
theorem dJ2_getChar_3b067_28 : decode cJ2_getChar_3b067 28 = .ok (.iload_n 1, 1) := by decide +kernel
theorem dJ2_getChar_3b067_29 : decode cJ2_getChar_3b067 29 = .ok (.iconst 1, 1) := by decide +kernel
theorem dJ2_getChar_3b067_30 : decode cJ2_getChar_3b067 30 = .ok (.ishl, 1) := by decide +kernel
theorem dJ2_getChar_3b067_31 : decode cJ2_getChar_3b067 31 = .ok (.istore_n 1, 1) := by decide +kernel
theorem dJ2_getChar_3b067_32 : decode cJ2_getChar_3b067 32 = .ok (.aload_n 0, 1) := by decide +kernel
theorem dJ2_getChar_3b067_33 : decode cJ2_getChar_3b067 33 = .ok (.iload_n 1, 1) := by decide +kernel
theorem dJ2_getChar_3b067_34 : decode cJ2_getChar_3b067 34 = .ok (.iinc 1 1, 3) := by decide +kernel
theorem dJ2_getChar_3b067_37 : decode cJ2_getChar_3b067 37 = .ok (.baload, 1) := by decide +kernel
theorem dJ2_getChar_3b067_38 : decode cJ2_getChar_3b067 38 = .ok (.sipush 255, 3) := by decide +kernel
theorem dJ2_getChar_3b067_41 : decode cJ2_getChar_3b067 41 = .ok (.iand, 1) := by decide +kernel
theorem dJ2_getChar_3b067_42 : decode cJ2_getChar_3b067 42 = .ok (.getstatic 59, 3) := by decide +kernel
theorem dJ2_getChar_3b067_45 : decode cJ2_getChar_3b067 45 = .ok (.ishl, 1) := by decide +kernel
theorem dJ2_getChar_3b067_46 : decode cJ2_getChar_3b067 46 = .ok (.aload_n 0, 1) := by decide +kernel
theorem dJ2_getChar_3b067_47 : decode cJ2_getChar_3b067 47 = .ok (.iload_n 1, 1) := by decide +kernel
theorem dJ2_getChar_3b067_48 : decode cJ2_getChar_3b067 48 = .ok (.baload, 1) := by decide +kernel
theorem dJ2_getChar_3b067_49 : decode cJ2_getChar_3b067 49 = .ok (.sipush 255, 3) := by decide +kernel
theorem dJ2_getChar_3b067_52 : decode cJ2_getChar_3b067 52 = .ok (.iand, 1) := by decide +kernel
theorem dJ2_getChar_3b067_53 : decode cJ2_getChar_3b067 53 = .ok (.getstatic 63, 3) := by decide +kernel
theorem dJ2_getChar_3b067_56 : decode cJ2_getChar_3b067 56 = .ok (.ishl, 1) := by decide +kernel
theorem dJ2_getChar_3b067_57 : decode cJ2_getChar_3b067 57 = .ok (.ior, 1) := by decide +kernel
theorem dJ2_getChar_3b067_58 : decode cJ2_getChar_3b067 58 = .ok (.i2c, 1) := by decide +kernel
theorem dJ2_getChar_3b067_59 : decode cJ2_getChar_3b067 59 = .ok (.ireturn, 1) := by decide +kernel
theorem dJ2_length_9d52b_0 : decode cJ2_length_9d52b 0 = .ok (.aload_n 0, 1) := by decide +kernel
theorem dJ2_length_9d52b_1 : decode cJ2_length_9d52b 1 = .ok (.arraylength, 1) := by decide +kernel
theorem dJ2_length_9d52b_2 : decode cJ2_length_9d52b 2 = .ok (.iconst 1, 1) := by decide +kernel
theorem dJ2_length_9d52b_3 : decode cJ2_length_9d52b 3 = .ok (.ishr, 1) := by decide +kernel
theorem dJ2_length_9d52b_4 : decode cJ2_length_9d52b 4 = .ok (.ireturn, 1) := by decide +kernel
theorem dJ2_charAt_3b067_0 : decode cJ2_charAt_3b067 0 = .ok (.iload_n 1, 1) := by decide +kernel
theorem dJ2_charAt_3b067_1 : decode cJ2_charAt_3b067 1 = .ok (.aload_n 0, 1) := by decide +kernel
theorem dJ2_charAt_3b067_2 : decode cJ2_charAt_3b067 2 = .ok (.invokestatic 67, 3) := by decide +kernel
theorem dJ2_charAt_3b067_5 : decode cJ2_charAt_3b067 5 = .ok (.aload_n 0, 1) := by decide +kernel
theorem dJ2_charAt_3b067_6 : decode cJ2_charAt_3b067 6 = .ok (.iload_n 1, 1) := by decide +kernel
theorem dJ2_charAt_3b067_7 : decode cJ2_charAt_3b067 7 = .ok (.invokestatic 71, 3) := by decide +kernel
theorem dJ2_charAt_3b067_10 : decode cJ2_charAt_3b067 10 = .ok (.ireturn, 1) := by decide +kernel
theorem dJ2_checkIndex_2214a_0 : decode cJ2_checkIndex_2214a 0 = .ok (.iload_n 0, 1) := by decide +kernel
theorem dJ2_checkIndex_2214a_1 : decode cJ2_checkIndex_2214a 1 = .ok (.aload_n 1, 1) := by decide +kernel
theorem dJ2_checkIndex_2214a_2 : decode cJ2_checkIndex_2214a 2 = .ok (.invokestatic 48, 3) := by decide +kernel
theorem dJ2_checkIndex_2214a_5 : decode cJ2_checkIndex_2214a 5 = .ok (.invokestatic 414, 3) := by decide +kernel
theorem dJ2_checkIndex_2214a_8 : decode cJ2_checkIndex_2214a 8 = .ok (.return_, 1) := by decide +kernel
theorem dJ7_fill_53178_0 : decode cJ7_fill_53178 0 = .ok (.iconst 0, 1) := by decide +kernel
theorem dJ7_fill_53178_1 : decode cJ7_fill_53178 1 = .ok (.istore_n 2, 1) := by decide +kernel
theorem dJ7_fill_53178_2 : decode cJ7_fill_53178 2 = .ok (.aload_n 0, 1) := by decide +kernel
theorem dJ7_fill_53178_3 : decode cJ7_fill_53178 3 = .ok (.arraylength, 1) := by decide +kernel
theorem dJ7_fill_53178_4 : decode cJ7_fill_53178 4 = .ok (.istore_n 3, 1) := by decide +kernel
theorem dJ7_fill_53178_5 : decode cJ7_fill_53178 5 = .ok (.iload_n 2, 1) := by decide +kernel
theorem dJ7_fill_53178_6 : decode cJ7_fill_53178 6 = .ok (.iload_n 3, 1) := by decide +kernel
theorem dJ7_fill_53178_7 : decode cJ7_fill_53178 7 = .ok (.if_icmp .ge 13, 3) := by decide +kernel
theorem dJ7_fill_53178_10 : decode cJ7_fill_53178 10 = .ok (.aload_n 0, 1) := by decide +kernel
theorem dJ7_fill_53178_11 : decode cJ7_fill_53178 11 = .ok (.iload_n 2, 1) := by decide +kernel
theorem dJ7_fill_53178_12 : decode cJ7_fill_53178 12 = .ok (.iload_n 1, 1) := by decide +kernel
theorem dJ7_fill_53178_13 : decode cJ7_fill_53178 13 = .ok (.iastore, 1) := by decide +kernel
theorem dJ7_fill_53178_14 : decode cJ7_fill_53178 14 = .ok (.iinc 2 1, 3) := by decide +kernel
theorem dJ7_fill_53178_17 : decode cJ7_fill_53178 17 = .ok (.goto (-12), 3) := by decide +kernel
theorem dJ7_fill_53178_20 : decode cJ7_fill_53178 20 = .ok (.return_, 1) := by decide +kernel
theorem dJ3_checkIndex_8e157_0 : decode cJ3_checkIndex_8e157 0 = .ok (.iload_n 0, 1) := by decide +kernel
theorem dJ3_checkIndex_8e157_1 : decode cJ3_checkIndex_8e157 1 = .ok (.ifCond .lt 8, 3) := by decide +kernel
theorem dJ3_checkIndex_8e157_4 : decode cJ3_checkIndex_8e157 4 = .ok (.iload_n 0, 1) := by decide +kernel
theorem dJ3_checkIndex_8e157_5 : decode cJ3_checkIndex_8e157 5 = .ok (.iload_n 1, 1) := by decide +kernel
theorem dJ3_checkIndex_8e157_6 : decode cJ3_checkIndex_8e157 6 = .ok (.if_icmp .lt 10, 3) := by decide +kernel
theorem dJ3_checkIndex_8e157_9 : decode cJ3_checkIndex_8e157 9 = .ok (.aload_n 2, 1) := by decide +kernel
theorem dJ3_checkIndex_8e157_10 : decode cJ3_checkIndex_8e157 10 = .ok (.iload_n 0, 1) := by decide +kernel
theorem dJ3_checkIndex_8e157_11 : decode cJ3_checkIndex_8e157 11 = .ok (.iload_n 1, 1) := by decide +kernel
theorem dJ3_checkIndex_8e157_12 : decode cJ3_checkIndex_8e157 12 = .ok (.invokestatic 95, 3) := by decide +kernel
theorem dJ3_checkIndex_8e157_15 : decode cJ3_checkIndex_8e157 15 = .ok (.athrow, 1) := by decide +kernel
theorem dJ3_checkIndex_8e157_16 : decode cJ3_checkIndex_8e157 16 = .ok (.iload_n 0, 1) := by decide +kernel
theorem dJ3_checkIndex_8e157_17 : decode cJ3_checkIndex_8e157 17 = .ok (.ireturn, 1) := by decide +kernel
end
section
theorem dX8_init_0 : decode cX8_init 0 = .ok (.aload_n 0, 1) := by decide +kernel
theorem dX8_init_1 : decode cX8_init 1 = .ok (.invokespecial 1, 3) := by decide +kernel
theorem dX8_init_4 : decode cX8_init 4 = .ok (.aload_n 0, 1) := by decide +kernel
theorem dX8_init_5 : decode cX8_init 5 = .ok (.bipush 52, 2) := by decide +kernel
theorem dX8_init_7 : decode cX8_init 7 = .ok (.newarray .int, 2) := by decide +kernel
theorem dX8_init_9 : decode cX8_init 9 = .ok (.putfield 7, 3) := by decide +kernel
theorem dX8_init_12 : decode cX8_init 12 = .ok (.aload_n 0, 1) := by decide +kernel
theorem dX8_init_13 : decode cX8_init 13 = .ok (.bipush 52, 2) := by decide +kernel
theorem dX8_init_15 : decode cX8_init 15 = .ok (.newarray .int, 2) := by decide +kernel
theorem dX8_init_17 : decode cX8_init 17 = .ok (.putfield 13, 3) := by decide +kernel
theorem dX8_init_20 : decode cX8_init 20 = .ok (.aload_n 0, 1) := by decide +kernel
theorem dX8_init_21 : decode cX8_init 21 = .ok (.sipush 312, 3) := by decide +kernel
theorem dX8_init_24 : decode cX8_init 24 = .ok (.newarray .int, 2) := by decide +kernel
theorem dX8_init_26 : decode cX8_init 26 = .ok (.putfield 16, 3) := by decide +kernel
theorem dX8_init_29 : decode cX8_init 29 = .ok (.aload_n 0, 1) := by decide +kernel
theorem dX8_init_30 : decode cX8_init 30 = .ok (.bipush 104, 2) := by decide +kernel
theorem dX8_init_32 : decode cX8_init 32 = .ok (.newarray .int, 2) := by decide +kernel
theorem dX8_init_34 : decode cX8_init 34 = .ok (.putfield 19, 3) := by decide +kernel
theorem dX8_init_37 : decode cX8_init 37 = .ok (.aload_n 0, 1) := by decide +kernel
theorem dX8_init_38 : decode cX8_init 38 = .ok (.iconst 2, 1) := by decide +kernel
theorem dX8_init_39 : decode cX8_init 39 = .ok (.newarray .boolean, 2) := by decide +kernel
theorem dX8_init_41 : decode cX8_init 41 = .ok (.putfield 22, 3) := by decide +kernel
theorem dX8_init_44 : decode cX8_init 44 = .ok (.aload_n 0, 1) := by decide +kernel
theorem dX8_init_45 : decode cX8_init 45 = .ok (.bipush 12, 2) := by decide +kernel
theorem dX8_init_47 : decode cX8_init 47 = .ok (.newarray .int, 2) := by decide +kernel
theorem dX8_init_49 : decode cX8_init 49 = .ok (.putfield 26, 3) := by decide +kernel
theorem dX8_init_52 : decode cX8_init 52 = .ok (.aload_n 0, 1) := by decide +kernel
theorem dX8_init_53 : decode cX8_init 53 = .ok (.bipush 120, 2) := by decide +kernel
theorem dX8_init_55 : decode cX8_init 55 = .ok (.newarray .byte, 2) := by decide +kernel
theorem dX8_init_57 : decode cX8_init 57 = .ok (.putfield 29, 3) := by decide +kernel
theorem dX8_init_60 : decode cX8_init 60 = .ok (.aload_n 0, 1) := by decide +kernel
theorem dX8_init_61 : decode cX8_init 61 = .ok (.bipush 7, 2) := by decide +kernel
theorem dX8_init_63 : decode cX8_init 63 = .ok (.newarray .int, 2) := by decide +kernel
theorem dX8_init_65 : decode cX8_init 65 = .ok (.putfield 33, 3) := by decide +kernel
theorem dX8_init_68 : decode cX8_init 68 = .ok (.aload_n 0, 1) := by decide +kernel
theorem dX8_init_69 : decode cX8_init 69 = .ok (.getfield 7, 3) := by decide +kernel
theorem dX8_init_72 : decode cX8_init 72 = .ok (.iconst 0, 1) := by decide +kernel
theorem dX8_init_73 : decode cX8_init 73 = .ok (.iconst 2, 1) := by decide +kernel
theorem dX8_init_74 : decode cX8_init 74 = .ok (.iastore, 1) := by decide +kernel
theorem dX8_init_75 : decode cX8_init 75 = .ok (.return_, 1) := by decide +kernel
theorem dX8_in_0 : decode cX8_in 0 = .ok (.iload_n 0, 1) := by decide +kernel
theorem dX8_in_1 : decode cX8_in 1 = .ok (.iload_n 1, 1) := by decide +kernel
theorem dX8_in_2 : decode cX8_in 2 = .ok (.if_icmp .lt 12, 3) := by decide +kernel
theorem dX8_in_5 : decode cX8_in 5 = .ok (.iload_n 0, 1) := by decide +kernel
theorem dX8_in_6 : decode cX8_in 6 = .ok (.iload_n 2, 1) := by decide +kernel
theorem dX8_in_7 : decode cX8_in 7 = .ok (.if_icmp .gt 7, 3) := by decide +kernel
theorem dX8_in_10 : decode cX8_in 10 = .ok (.iconst 1, 1) := by decide +kernel
theorem dX8_in_11 : decode cX8_in 11 = .ok (.goto 4, 3) := by decide +kernel
theorem dX8_in_14 : decode cX8_in 14 = .ok (.iconst 0, 1) := by decide +kernel
theorem dX8_in_15 : decode cX8_in 15 = .ok (.ireturn, 1) := by decide +kernel
theorem dX8_has_0 : decode cX8_has 0 = .ok (.iload_n 0, 1) := by decide +kernel
theorem dX8_has_1 : decode cX8_has 1 = .ok (.iload_n 1, 1) := by decide +kernel
theorem dX8_has_2 : decode cX8_has 2 = .ok (.ishr, 1) := by decide +kernel
theorem dX8_has_3 : decode cX8_has 3 = .ok (.iconst 1, 1) := by decide +kernel
theorem dX8_has_4 : decode cX8_has 4 = .ok (.iand, 1) := by decide +kernel
theorem dX8_has_5 : decode cX8_has 5 = .ok (.iconst 1, 1) := by decide +kernel
theorem dX8_has_6 : decode cX8_has 6 = .ok (.if_icmp .ne 7, 3) := by decide +kernel
theorem dX8_has_9 : decode cX8_has 9 = .ok (.iconst 1, 1) := by decide +kernel
theorem dX8_has_10 : decode cX8_has 10 = .ok (.goto 4, 3) := by decide +kernel
theorem dX8_has_13 : decode cX8_has 13 = .ok (.iconst 0, 1) := by decide +kernel
theorem dX8_has_14 : decode cX8_has 14 = .ok (.ireturn, 1) := by decide +kernel
theorem dX8_bits_0 : decode cX8_bits 0 = .ok (.iconst 0, 1) := by decide +kernel
theorem dX8_bits_1 : decode cX8_bits 1 = .ok (.istore_n 1, 1) := by decide +kernel
theorem dX8_bits_2 : decode cX8_bits 2 = .ok (.iconst 0, 1) := by decide +kernel
theorem dX8_bits_3 : decode cX8_bits 3 = .ok (.istore_n 2, 1) := by decide +kernel
theorem dX8_bits_4 : decode cX8_bits 4 = .ok (.iload_n 2, 1) := by decide +kernel
theorem dX8_bits_5 : decode cX8_bits 5 = .ok (.bipush 12, 2) := by decide +kernel
theorem dX8_bits_7 : decode cX8_bits 7 = .ok (.if_icmp .ge 17, 3) := by decide +kernel
theorem dX8_bits_10 : decode cX8_bits 10 = .ok (.iload_n 1, 1) := by decide +kernel
theorem dX8_bits_11 : decode cX8_bits 11 = .ok (.iload_n 0, 1) := by decide +kernel
theorem dX8_bits_12 : decode cX8_bits 12 = .ok (.iload_n 2, 1) := by decide +kernel
theorem dX8_bits_13 : decode cX8_bits 13 = .ok (.ishr, 1) := by decide +kernel
theorem dX8_bits_14 : decode cX8_bits 14 = .ok (.iconst 1, 1) := by decide +kernel
theorem dX8_bits_15 : decode cX8_bits 15 = .ok (.iand, 1) := by decide +kernel
theorem dX8_bits_16 : decode cX8_bits 16 = .ok (.iadd, 1) := by decide +kernel
theorem dX8_bits_17 : decode cX8_bits 17 = .ok (.istore_n 1, 1) := by decide +kernel
theorem dX8_bits_18 : decode cX8_bits 18 = .ok (.iinc 2 1, 3) := by decide +kernel
theorem dX8_bits_21 : decode cX8_bits 21 = .ok (.goto (-17), 3) := by decide +kernel
theorem dX8_bits_24 : decode cX8_bits 24 = .ok (.iload_n 1, 1) := by decide +kernel
theorem dX8_bits_25 : decode cX8_bits 25 = .ok (.ireturn, 1) := by decide +kernel
theorem dX8_type_0 : decode cX8_type 0 = .ok (.aload_n 0, 1) := by decide +kernel
theorem dX8_type_1 : decode cX8_type 1 = .ok (.iconst 0, 1) := by decide +kernel
theorem dX8_type_2 : decode cX8_type 2 = .ok (.putfield 36, 3) := by decide +kernel
theorem dX8_type_5 : decode cX8_type 5 = .ok (.iload_n 1, 1) := by decide +kernel
theorem dX8_type_6 : decode cX8_type 6 = .ok (.iconst 0, 1) := by decide +kernel
theorem dX8_type_7 : decode cX8_type 7 = .ok (.sipush 255, 3) := by decide +kernel
theorem dX8_type_10 : decode cX8_type 10 = .ok (.invokestatic 40, 3) := by decide +kernel
theorem dX8_type_13 : decode cX8_type 13 = .ok (.ifCond .ne 5, 3) := by decide +kernel
theorem dX8_type_16 : decode cX8_type 16 = .ok (.iconst (-1), 1) := by decide +kernel
theorem dX8_type_17 : decode cX8_type 17 = .ok (.ireturn, 1) := by decide +kernel
theorem dX8_type_18 : decode cX8_type 18 = .ok (.aload_n 0, 1) := by decide +kernel
theorem dX8_type_19 : decode cX8_type 19 = .ok (.getfield 44, 3) := by decide +kernel
theorem dX8_type_22 : decode cX8_type 22 = .ok (.bipush 120, 2) := by decide +kernel
theorem dX8_type_24 : decode cX8_type 24 = .ok (.if_icmp .ne 6, 3) := by decide +kernel
theorem dX8_type_27 : decode cX8_type 27 = .ok (.bipush (-3), 2) := by decide +kernel
theorem dX8_type_29 : decode cX8_type 29 = .ok (.ireturn, 1) := by decide +kernel
theorem dX8_type_30 : decode cX8_type 30 = .ok (.aload_n 0, 1) := by decide +kernel
theorem dX8_type_31 : decode cX8_type 31 = .ok (.getfield 29, 3) := by decide +kernel
theorem dX8_type_34 : decode cX8_type 34 = .ok (.aload_n 0, 1) := by decide +kernel
theorem dX8_type_35 : decode cX8_type 35 = .ok (.getfield 44, 3) := by decide +kernel
theorem dX8_type_38 : decode cX8_type 38 = .ok (.iload_n 1, 1) := by decide +kernel
theorem dX8_type_39 : decode cX8_type 39 = .ok (.i2b, 1) := by decide +kernel
theorem dX8_type_40 : decode cX8_type 40 = .ok (.bastore, 1) := by decide +kernel
theorem dX8_type_41 : decode cX8_type 41 = .ok (.aload_n 0, 1) := by decide +kernel
theorem dX8_type_42 : decode cX8_type 42 = .ok (.dup, 1) := by decide +kernel
theorem dX8_type_43 : decode cX8_type 43 = .ok (.getfield 44, 3) := by decide +kernel
theorem dX8_type_46 : decode cX8_type 46 = .ok (.iconst 1, 1) := by decide +kernel
theorem dX8_type_47 : decode cX8_type 47 = .ok (.iadd, 1) := by decide +kernel
theorem dX8_type_48 : decode cX8_type 48 = .ok (.putfield 44, 3) := by decide +kernel
theorem dX8_type_51 : decode cX8_type 51 = .ok (.aload_n 0, 1) := by decide +kernel
theorem dX8_type_52 : decode cX8_type 52 = .ok (.getfield 44, 3) := by decide +kernel
theorem dX8_type_55 : decode cX8_type 55 = .ok (.ireturn, 1) := by decide +kernel
theorem dX8_clear_0 : decode cX8_clear 0 = .ok (.aload_n 0, 1) := by decide +kernel
theorem dX8_clear_1 : decode cX8_clear 1 = .ok (.iconst 0, 1) := by decide +kernel
theorem dX8_clear_2 : decode cX8_clear 2 = .ok (.putfield 36, 3) := by decide +kernel
theorem dX8_clear_5 : decode cX8_clear 5 = .ok (.aload_n 0, 1) := by decide +kernel
theorem dX8_clear_6 : decode cX8_clear 6 = .ok (.getfield 44, 3) := by decide +kernel
theorem dX8_clear_9 : decode cX8_clear 9 = .ok (.istore_n 1, 1) := by decide +kernel
theorem dX8_clear_10 : decode cX8_clear 10 = .ok (.aload_n 0, 1) := by decide +kernel
theorem dX8_clear_11 : decode cX8_clear 11 = .ok (.iconst 0, 1) := by decide +kernel
theorem dX8_clear_12 : decode cX8_clear 12 = .ok (.putfield 44, 3) := by decide +kernel
theorem dX8_clear_15 : decode cX8_clear 15 = .ok (.iload_n 1, 1) := by decide +kernel
theorem dX8_clear_16 : decode cX8_clear 16 = .ok (.ireturn, 1) := by decide +kernel
theorem dX8_at_0 : decode cX8_at 0 = .ok (.iload_n 1, 1) := by decide +kernel
theorem dX8_at_1 : decode cX8_at 1 = .ok (.aload_n 0, 1) := by decide +kernel
theorem dX8_at_2 : decode cX8_at 2 = .ok (.getfield 44, 3) := by decide +kernel
theorem dX8_at_5 : decode cX8_at 5 = .ok (.if_icmp .ge 16, 3) := by decide +kernel
theorem dX8_at_8 : decode cX8_at 8 = .ok (.aload_n 0, 1) := by decide +kernel
theorem dX8_at_9 : decode cX8_at 9 = .ok (.getfield 29, 3) := by decide +kernel
theorem dX8_at_12 : decode cX8_at 12 = .ok (.iload_n 1, 1) := by decide +kernel
theorem dX8_at_13 : decode cX8_at 13 = .ok (.baload, 1) := by decide +kernel
theorem dX8_at_14 : decode cX8_at 14 = .ok (.sipush 255, 3) := by decide +kernel
theorem dX8_at_17 : decode cX8_at 17 = .ok (.iand, 1) := by decide +kernel
theorem dX8_at_18 : decode cX8_at 18 = .ok (.goto 4, 3) := by decide +kernel
theorem dX8_at_21 : decode cX8_at 21 = .ok (.iconst (-1), 1) := by decide +kernel
theorem dX8_at_22 : decode cX8_at 22 = .ok (.ireturn, 1) := by decide +kernel
theorem dX8_code_0 : decode cX8_code 0 = .ok (.iconst 0, 1) := by decide +kernel
theorem dX8_code_1 : decode cX8_code 1 = .ok (.istore_n 1, 1) := by decide +kernel
theorem dX8_code_2 : decode cX8_code 2 = .ok (.aload_n 0, 1) := by decide +kernel
theorem dX8_code_3 : decode cX8_code 3 = .ok (.getfield 47, 3) := by decide +kernel
theorem dX8_code_6 : decode cX8_code 6 = .ok (.istore_n 2, 1) := by decide +kernel
theorem dX8_code_7 : decode cX8_code 7 = .ok (.iload_n 2, 1) := by decide +kernel
theorem dX8_code_8 : decode cX8_code 8 = .ok (.aload_n 0, 1) := by decide +kernel
theorem dX8_code_9 : decode cX8_code 9 = .ok (.getfield 50, 3) := by decide +kernel
theorem dX8_code_12 : decode cX8_code 12 = .ok (.if_icmp .ge 23, 3) := by decide +kernel
theorem dX8_code_15 : decode cX8_code 15 = .ok (.bipush 27, 2) := by decide +kernel
theorem dX8_code_17 : decode cX8_code 17 = .ok (.iload_n 1, 1) := by decide +kernel
theorem dX8_code_18 : decode cX8_code 18 = .ok (.imul, 1) := by decide +kernel
theorem dX8_code_19 : decode cX8_code 19 = .ok (.aload_n 0, 1) := by decide +kernel
theorem dX8_code_20 : decode cX8_code 20 = .ok (.iload_n 2, 1) := by decide +kernel
theorem dX8_code_21 : decode cX8_code 21 = .ok (.invokevirtual 53, 3) := by decide +kernel
theorem dX8_code_24 : decode cX8_code 24 = .ok (.iadd, 1) := by decide +kernel
theorem dX8_code_25 : decode cX8_code 25 = .ok (.bipush 96, 2) := by decide +kernel
theorem dX8_code_27 : decode cX8_code 27 = .ok (.isub, 1) := by decide +kernel
theorem dX8_code_28 : decode cX8_code 28 = .ok (.istore_n 1, 1) := by decide +kernel
theorem dX8_code_29 : decode cX8_code 29 = .ok (.iinc 2 1, 3) := by decide +kernel
theorem dX8_code_32 : decode cX8_code 32 = .ok (.goto (-25), 3) := by decide +kernel
theorem dX8_code_35 : decode cX8_code 35 = .ok (.iload_n 1, 1) := by decide +kernel
theorem dX8_code_36 : decode cX8_code 36 = .ok (.ireturn, 1) := by decide +kernel
theorem dX8_wordOf_0 : decode cX8_wordOf 0 = .ok (.aload_n 0, 1) := by decide +kernel
theorem dX8_wordOf_1 : decode cX8_wordOf 1 = .ok (.getfield 50, 3) := by decide +kernel
theorem dX8_wordOf_4 : decode cX8_wordOf 4 = .ok (.aload_n 0, 1) := by decide +kernel
theorem dX8_wordOf_5 : decode cX8_wordOf 5 = .ok (.getfield 47, 3) := by decide +kernel
theorem dX8_wordOf_8 : decode cX8_wordOf 8 = .ok (.isub, 1) := by decide +kernel
theorem dX8_wordOf_9 : decode cX8_wordOf 9 = .ok (.bipush 6, 2) := by decide +kernel
theorem dX8_wordOf_11 : decode cX8_wordOf 11 = .ok (.if_icmp .le 6, 3) := by decide +kernel
theorem dX8_wordOf_14 : decode cX8_wordOf 14 = .ok (.bipush 7, 2) := by decide +kernel
theorem dX8_wordOf_16 : decode cX8_wordOf 16 = .ok (.ireturn, 1) := by decide +kernel
theorem dX8_wordOf_17 : decode cX8_wordOf 17 = .ok (.aload_n 0, 1) := by decide +kernel
theorem dX8_wordOf_18 : decode cX8_wordOf 18 = .ok (.invokevirtual 57, 3) := by decide +kernel
theorem dX8_wordOf_21 : decode cX8_wordOf 21 = .ok (.lookupswitch 51 #[(243146, 49), (6564179, 47), (7738489, 43), (281027399, 45)], 43) := by decide +kernel
theorem dX8_wordOf_64 : decode cX8_wordOf 64 = .ok (.iconst 1, 1) := by decide +kernel
theorem dX8_wordOf_65 : decode cX8_wordOf 65 = .ok (.ireturn, 1) := by decide +kernel
theorem dX8_wordOf_66 : decode cX8_wordOf 66 = .ok (.iconst 2, 1) := by decide +kernel
theorem dX8_wordOf_67 : decode cX8_wordOf 67 = .ok (.ireturn, 1) := by decide +kernel
theorem dX8_wordOf_68 : decode cX8_wordOf 68 = .ok (.iconst 3, 1) := by decide +kernel
theorem dX8_wordOf_69 : decode cX8_wordOf 69 = .ok (.ireturn, 1) := by decide +kernel
theorem dX8_wordOf_70 : decode cX8_wordOf 70 = .ok (.iconst 4, 1) := by decide +kernel
theorem dX8_wordOf_71 : decode cX8_wordOf 71 = .ok (.ireturn, 1) := by decide +kernel
theorem dX8_wordOf_72 : decode cX8_wordOf 72 = .ok (.bipush 7, 2) := by decide +kernel
theorem dX8_wordOf_74 : decode cX8_wordOf 74 = .ok (.ireturn, 1) := by decide +kernel
theorem dX8_steps_0 : decode cX8_steps 0 = .ok (.aload_n 0, 1) := by decide +kernel
theorem dX8_steps_1 : decode cX8_steps 1 = .ok (.aload_n 0, 1) := by decide +kernel
theorem dX8_steps_2 : decode cX8_steps 2 = .ok (.getfield 50, 3) := by decide +kernel
theorem dX8_steps_5 : decode cX8_steps 5 = .ok (.putfield 47, 3) := by decide +kernel
theorem dX8_steps_8 : decode cX8_steps 8 = .ok (.aload_n 0, 1) := by decide +kernel
theorem dX8_steps_9 : decode cX8_steps 9 = .ok (.aload_n 0, 1) := by decide +kernel
theorem dX8_steps_10 : decode cX8_steps 10 = .ok (.getfield 47, 3) := by decide +kernel
theorem dX8_steps_13 : decode cX8_steps 13 = .ok (.invokevirtual 53, 3) := by decide +kernel
theorem dX8_steps_16 : decode cX8_steps 16 = .ok (.bipush 32, 2) := by decide +kernel
theorem dX8_steps_18 : decode cX8_steps 18 = .ok (.if_icmp .ne 16, 3) := by decide +kernel
theorem dX8_steps_21 : decode cX8_steps 21 = .ok (.aload_n 0, 1) := by decide +kernel
theorem dX8_steps_22 : decode cX8_steps 22 = .ok (.dup, 1) := by decide +kernel
theorem dX8_steps_23 : decode cX8_steps 23 = .ok (.getfield 47, 3) := by decide +kernel
theorem dX8_steps_26 : decode cX8_steps 26 = .ok (.iconst 1, 1) := by decide +kernel
theorem dX8_steps_27 : decode cX8_steps 27 = .ok (.iadd, 1) := by decide +kernel
theorem dX8_steps_28 : decode cX8_steps 28 = .ok (.putfield 47, 3) := by decide +kernel
theorem dX8_steps_31 : decode cX8_steps 31 = .ok (.goto (-23), 3) := by decide +kernel
theorem dX8_steps_34 : decode cX8_steps 34 = .ok (.aload_n 0, 1) := by decide +kernel
theorem dX8_steps_35 : decode cX8_steps 35 = .ok (.aload_n 0, 1) := by decide +kernel
theorem dX8_steps_36 : decode cX8_steps 36 = .ok (.getfield 47, 3) := by decide +kernel
theorem dX8_steps_39 : decode cX8_steps 39 = .ok (.putfield 50, 3) := by decide +kernel
theorem dX8_steps_42 : decode cX8_steps 42 = .ok (.aload_n 0, 1) := by decide +kernel
theorem dX8_steps_43 : decode cX8_steps 43 = .ok (.aload_n 0, 1) := by decide +kernel
theorem dX8_steps_44 : decode cX8_steps 44 = .ok (.getfield 50, 3) := by decide +kernel
theorem dX8_steps_47 : decode cX8_steps 47 = .ok (.invokevirtual 53, 3) := by decide +kernel
theorem dX8_steps_50 : decode cX8_steps 50 = .ok (.ifCond .ge 11, 3) := by decide +kernel
theorem dX8_steps_53 : decode cX8_steps 53 = .ok (.aload_n 0, 1) := by decide +kernel
theorem dX8_steps_54 : decode cX8_steps 54 = .ok (.iconst 0, 1) := by decide +kernel
theorem dX8_steps_55 : decode cX8_steps 55 = .ok (.putfield 61, 3) := by decide +kernel
theorem dX8_steps_58 : decode cX8_steps 58 = .ok (.goto 172, 3) := by decide +kernel
theorem dX8_steps_61 : decode cX8_steps 61 = .ok (.aload_n 0, 1) := by decide +kernel
theorem dX8_steps_62 : decode cX8_steps 62 = .ok (.aload_n 0, 1) := by decide +kernel
theorem dX8_steps_63 : decode cX8_steps 63 = .ok (.getfield 50, 3) := by decide +kernel
theorem dX8_steps_66 : decode cX8_steps 66 = .ok (.invokevirtual 53, 3) := by decide +kernel
theorem dX8_steps_69 : decode cX8_steps 69 = .ok (.bipush 48, 2) := by decide +kernel
theorem dX8_steps_71 : decode cX8_steps 71 = .ok (.bipush 57, 2) := by decide +kernel
theorem dX8_steps_73 : decode cX8_steps 73 = .ok (.invokestatic 40, 3) := by decide +kernel
theorem dX8_steps_76 : decode cX8_steps 76 = .ok (.ifCond .eq 60, 3) := by decide +kernel
theorem dX8_steps_79 : decode cX8_steps 79 = .ok (.aload_n 0, 1) := by decide +kernel
theorem dX8_steps_80 : decode cX8_steps 80 = .ok (.aload_n 0, 1) := by decide +kernel
theorem dX8_steps_81 : decode cX8_steps 81 = .ok (.getfield 50, 3) := by decide +kernel
theorem dX8_steps_84 : decode cX8_steps 84 = .ok (.invokevirtual 53, 3) := by decide +kernel
theorem dX8_steps_87 : decode cX8_steps 87 = .ok (.bipush 48, 2) := by decide +kernel
theorem dX8_steps_89 : decode cX8_steps 89 = .ok (.bipush 57, 2) := by decide +kernel
theorem dX8_steps_91 : decode cX8_steps 91 = .ok (.invokestatic 40, 3) := by decide +kernel
theorem dX8_steps_94 : decode cX8_steps 94 = .ok (.ifCond .eq 16, 3) := by decide +kernel
theorem dX8_steps_97 : decode cX8_steps 97 = .ok (.aload_n 0, 1) := by decide +kernel
theorem dX8_steps_98 : decode cX8_steps 98 = .ok (.dup, 1) := by decide +kernel
theorem dX8_steps_99 : decode cX8_steps 99 = .ok (.getfield 50, 3) := by decide +kernel
theorem dX8_steps_102 : decode cX8_steps 102 = .ok (.iconst 1, 1) := by decide +kernel
theorem dX8_steps_103 : decode cX8_steps 103 = .ok (.iadd, 1) := by decide +kernel
theorem dX8_steps_104 : decode cX8_steps 104 = .ok (.putfield 50, 3) := by decide +kernel
theorem dX8_steps_107 : decode cX8_steps 107 = .ok (.goto (-28), 3) := by decide +kernel
theorem dX8_steps_110 : decode cX8_steps 110 = .ok (.aload_n 0, 1) := by decide +kernel
theorem dX8_steps_111 : decode cX8_steps 111 = .ok (.aload_n 0, 1) := by decide +kernel
theorem dX8_steps_112 : decode cX8_steps 112 = .ok (.getfield 50, 3) := by decide +kernel
theorem dX8_steps_115 : decode cX8_steps 115 = .ok (.aload_n 0, 1) := by decide +kernel
theorem dX8_steps_116 : decode cX8_steps 116 = .ok (.getfield 47, 3) := by decide +kernel
theorem dX8_steps_119 : decode cX8_steps 119 = .ok (.isub, 1) := by decide +kernel
theorem dX8_steps_120 : decode cX8_steps 120 = .ok (.iconst 1, 1) := by decide +kernel
theorem dX8_steps_121 : decode cX8_steps 121 = .ok (.if_icmp .ne 7, 3) := by decide +kernel
theorem dX8_steps_124 : decode cX8_steps 124 = .ok (.iconst 5, 1) := by decide +kernel
theorem dX8_steps_125 : decode cX8_steps 125 = .ok (.goto 5, 3) := by decide +kernel
theorem dX8_steps_128 : decode cX8_steps 128 = .ok (.bipush 7, 2) := by decide +kernel
theorem dX8_steps_130 : decode cX8_steps 130 = .ok (.putfield 61, 3) := by decide +kernel
theorem dX8_steps_133 : decode cX8_steps 133 = .ok (.goto 97, 3) := by decide +kernel
theorem dX8_steps_136 : decode cX8_steps 136 = .ok (.aload_n 0, 1) := by decide +kernel
theorem dX8_steps_137 : decode cX8_steps 137 = .ok (.aload_n 0, 1) := by decide +kernel
theorem dX8_steps_138 : decode cX8_steps 138 = .ok (.getfield 50, 3) := by decide +kernel
theorem dX8_steps_141 : decode cX8_steps 141 = .ok (.invokevirtual 53, 3) := by decide +kernel
theorem dX8_steps_144 : decode cX8_steps 144 = .ok (.bipush 97, 2) := by decide +kernel
theorem dX8_steps_146 : decode cX8_steps 146 = .ok (.bipush 122, 2) := by decide +kernel
theorem dX8_steps_148 : decode cX8_steps 148 = .ok (.invokestatic 40, 3) := by decide +kernel
theorem dX8_steps_151 : decode cX8_steps 151 = .ok (.ifCond .eq 45, 3) := by decide +kernel
theorem dX8_steps_154 : decode cX8_steps 154 = .ok (.aload_n 0, 1) := by decide +kernel
theorem dX8_steps_155 : decode cX8_steps 155 = .ok (.aload_n 0, 1) := by decide +kernel
theorem dX8_steps_156 : decode cX8_steps 156 = .ok (.getfield 50, 3) := by decide +kernel
theorem dX8_steps_159 : decode cX8_steps 159 = .ok (.invokevirtual 53, 3) := by decide +kernel
theorem dX8_steps_162 : decode cX8_steps 162 = .ok (.bipush 97, 2) := by decide +kernel
theorem dX8_steps_164 : decode cX8_steps 164 = .ok (.bipush 122, 2) := by decide +kernel
theorem dX8_steps_166 : decode cX8_steps 166 = .ok (.invokestatic 40, 3) := by decide +kernel
theorem dX8_steps_169 : decode cX8_steps 169 = .ok (.ifCond .eq 16, 3) := by decide +kernel
theorem dX8_steps_172 : decode cX8_steps 172 = .ok (.aload_n 0, 1) := by decide +kernel
theorem dX8_steps_173 : decode cX8_steps 173 = .ok (.dup, 1) := by decide +kernel
theorem dX8_steps_174 : decode cX8_steps 174 = .ok (.getfield 50, 3) := by decide +kernel
theorem dX8_steps_177 : decode cX8_steps 177 = .ok (.iconst 1, 1) := by decide +kernel
theorem dX8_steps_178 : decode cX8_steps 178 = .ok (.iadd, 1) := by decide +kernel
theorem dX8_steps_179 : decode cX8_steps 179 = .ok (.putfield 50, 3) := by decide +kernel
theorem dX8_steps_182 : decode cX8_steps 182 = .ok (.goto (-28), 3) := by decide +kernel
theorem dX8_steps_185 : decode cX8_steps 185 = .ok (.aload_n 0, 1) := by decide +kernel
theorem dX8_steps_186 : decode cX8_steps 186 = .ok (.aload_n 0, 1) := by decide +kernel
theorem dX8_steps_187 : decode cX8_steps 187 = .ok (.invokevirtual 64, 3) := by decide +kernel
theorem dX8_steps_190 : decode cX8_steps 190 = .ok (.putfield 61, 3) := by decide +kernel
theorem dX8_steps_193 : decode cX8_steps 193 = .ok (.goto 37, 3) := by decide +kernel
theorem dX8_steps_196 : decode cX8_steps 196 = .ok (.aload_n 0, 1) := by decide +kernel
theorem dX8_steps_197 : decode cX8_steps 197 = .ok (.aload_n 0, 1) := by decide +kernel
theorem dX8_steps_198 : decode cX8_steps 198 = .ok (.aload_n 0, 1) := by decide +kernel
theorem dX8_steps_199 : decode cX8_steps 199 = .ok (.getfield 50, 3) := by decide +kernel
theorem dX8_steps_202 : decode cX8_steps 202 = .ok (.invokevirtual 53, 3) := by decide +kernel
theorem dX8_steps_205 : decode cX8_steps 205 = .ok (.bipush 59, 2) := by decide +kernel
theorem dX8_steps_207 : decode cX8_steps 207 = .ok (.if_icmp .ne 8, 3) := by decide +kernel
theorem dX8_steps_210 : decode cX8_steps 210 = .ok (.bipush 6, 2) := by decide +kernel
theorem dX8_steps_212 : decode cX8_steps 212 = .ok (.goto 5, 3) := by decide +kernel
theorem dX8_steps_215 : decode cX8_steps 215 = .ok (.bipush 7, 2) := by decide +kernel
theorem dX8_steps_217 : decode cX8_steps 217 = .ok (.putfield 61, 3) := by decide +kernel
theorem dX8_steps_220 : decode cX8_steps 220 = .ok (.aload_n 0, 1) := by decide +kernel
theorem dX8_steps_221 : decode cX8_steps 221 = .ok (.dup, 1) := by decide +kernel
theorem dX8_steps_222 : decode cX8_steps 222 = .ok (.getfield 50, 3) := by decide +kernel
theorem dX8_steps_225 : decode cX8_steps 225 = .ok (.iconst 1, 1) := by decide +kernel
theorem dX8_steps_226 : decode cX8_steps 226 = .ok (.iadd, 1) := by decide +kernel
theorem dX8_steps_227 : decode cX8_steps 227 = .ok (.putfield 50, 3) := by decide +kernel
theorem dX8_steps_230 : decode cX8_steps 230 = .ok (.return_, 1) := by decide +kernel
theorem dX8_takes_0 : decode cX8_takes 0 = .ok (.aload_n 0, 1) := by decide +kernel
theorem dX8_takes_1 : decode cX8_takes 1 = .ok (.getfield 67, 3) := by decide +kernel
theorem dX8_takes_4 : decode cX8_takes 4 = .ok (.bipush (-9), 2) := by decide +kernel
theorem dX8_takes_6 : decode cX8_takes 6 = .ok (.if_icmp .ne 22, 3) := by decide +kernel
theorem dX8_takes_9 : decode cX8_takes 9 = .ok (.iload_n 1, 1) := by decide +kernel
theorem dX8_takes_10 : decode cX8_takes 10 = .ok (.ifCond .eq 10, 3) := by decide +kernel
theorem dX8_takes_13 : decode cX8_takes 13 = .ok (.aload_n 0, 1) := by decide +kernel
theorem dX8_takes_14 : decode cX8_takes 14 = .ok (.invokevirtual 70, 3) := by decide +kernel
theorem dX8_takes_17 : decode cX8_takes 17 = .ok (.goto 11, 3) := by decide +kernel
theorem dX8_takes_20 : decode cX8_takes 20 = .ok (.aload_n 0, 1) := by decide +kernel
theorem dX8_takes_21 : decode cX8_takes 21 = .ok (.aload_n 0, 1) := by decide +kernel
theorem dX8_takes_22 : decode cX8_takes 22 = .ok (.getfield 47, 3) := by decide +kernel
theorem dX8_takes_25 : decode cX8_takes 25 = .ok (.putfield 67, 3) := by decide +kernel
theorem dX8_takes_28 : decode cX8_takes 28 = .ok (.return_, 1) := by decide +kernel
theorem dX8_figure_0 : decode cX8_figure 0 = .ok (.aload_n 0, 1) := by decide +kernel
theorem dX8_figure_1 : decode cX8_figure 1 = .ok (.getfield 61, 3) := by decide +kernel
theorem dX8_figure_4 : decode cX8_figure 4 = .ok (.iconst 5, 1) := by decide +kernel
theorem dX8_figure_5 : decode cX8_figure 5 = .ok (.if_icmp .ne 17, 3) := by decide +kernel
theorem dX8_figure_8 : decode cX8_figure 8 = .ok (.aload_n 0, 1) := by decide +kernel
theorem dX8_figure_9 : decode cX8_figure 9 = .ok (.aload_n 0, 1) := by decide +kernel
theorem dX8_figure_10 : decode cX8_figure 10 = .ok (.getfield 47, 3) := by decide +kernel
theorem dX8_figure_13 : decode cX8_figure 13 = .ok (.invokevirtual 53, 3) := by decide +kernel
theorem dX8_figure_16 : decode cX8_figure 16 = .ok (.bipush 48, 2) := by decide +kernel
theorem dX8_figure_18 : decode cX8_figure 18 = .ok (.isub, 1) := by decide +kernel
theorem dX8_figure_19 : decode cX8_figure 19 = .ok (.goto 5, 3) := by decide +kernel
theorem dX8_figure_22 : decode cX8_figure 22 = .ok (.bipush (-9), 2) := by decide +kernel
theorem dX8_figure_24 : decode cX8_figure 24 = .ok (.istore_n 3, 1) := by decide +kernel
theorem dX8_figure_25 : decode cX8_figure 25 = .ok (.aload_n 0, 1) := by decide +kernel
theorem dX8_figure_26 : decode cX8_figure 26 = .ok (.aload_n 0, 1) := by decide +kernel
theorem dX8_figure_27 : decode cX8_figure 27 = .ok (.getfield 61, 3) := by decide +kernel
theorem dX8_figure_30 : decode cX8_figure 30 = .ok (.iconst 5, 1) := by decide +kernel
theorem dX8_figure_31 : decode cX8_figure 31 = .ok (.if_icmp .ne 16, 3) := by decide +kernel
theorem dX8_figure_34 : decode cX8_figure 34 = .ok (.iload_n 3, 1) := by decide +kernel
theorem dX8_figure_35 : decode cX8_figure 35 = .ok (.iload_n 1, 1) := by decide +kernel
theorem dX8_figure_36 : decode cX8_figure 36 = .ok (.iload_n 2, 1) := by decide +kernel
theorem dX8_figure_37 : decode cX8_figure 37 = .ok (.invokestatic 40, 3) := by decide +kernel
theorem dX8_figure_40 : decode cX8_figure 40 = .ok (.ifCond .eq 7, 3) := by decide +kernel
theorem dX8_figure_43 : decode cX8_figure 43 = .ok (.iconst 1, 1) := by decide +kernel
theorem dX8_figure_44 : decode cX8_figure 44 = .ok (.goto 4, 3) := by decide +kernel
theorem dX8_figure_47 : decode cX8_figure 47 = .ok (.iconst 0, 1) := by decide +kernel
theorem dX8_figure_48 : decode cX8_figure 48 = .ok (.invokevirtual 73, 3) := by decide +kernel
theorem dX8_figure_51 : decode cX8_figure 51 = .ok (.iload_n 3, 1) := by decide +kernel
theorem dX8_figure_52 : decode cX8_figure 52 = .ok (.ireturn, 1) := by decide +kernel
theorem dX8_areLinked_0 : decode cX8_areLinked 0 = .ok (.iconst 0, 1) := by decide +kernel
theorem dX8_areLinked_1 : decode cX8_areLinked 1 = .ok (.istore_n 3, 1) := by decide +kernel
theorem dX8_areLinked_2 : decode cX8_areLinked 2 = .ok (.iconst 0, 1) := by decide +kernel
theorem dX8_areLinked_3 : decode cX8_areLinked 3 = .ok (.istore 4, 2) := by decide +kernel
theorem dX8_areLinked_5 : decode cX8_areLinked 5 = .ok (.iload 4, 2) := by decide +kernel
theorem dX8_areLinked_7 : decode cX8_areLinked 7 = .ok (.aload_n 0, 1) := by decide +kernel
theorem dX8_areLinked_8 : decode cX8_areLinked 8 = .ok (.getfield 13, 3) := by decide +kernel
theorem dX8_areLinked_11 : decode cX8_areLinked 11 = .ok (.iconst 1, 1) := by decide +kernel
theorem dX8_areLinked_12 : decode cX8_areLinked 12 = .ok (.iaload, 1) := by decide +kernel
theorem dX8_areLinked_13 : decode cX8_areLinked 13 = .ok (.if_icmp .ge 75, 3) := by decide +kernel
theorem dX8_areLinked_16 : decode cX8_areLinked 16 = .ok (.iload_n 3, 1) := by decide +kernel
theorem dX8_areLinked_17 : decode cX8_areLinked 17 = .ok (.ifCond .ne 59, 3) := by decide +kernel
theorem dX8_areLinked_20 : decode cX8_areLinked 20 = .ok (.aload_n 0, 1) := by decide +kernel
theorem dX8_areLinked_21 : decode cX8_areLinked 21 = .ok (.getfield 13, 3) := by decide +kernel
theorem dX8_areLinked_24 : decode cX8_areLinked 24 = .ok (.bipush 16, 2) := by decide +kernel
theorem dX8_areLinked_26 : decode cX8_areLinked 26 = .ok (.iload 4, 2) := by decide +kernel
theorem dX8_areLinked_28 : decode cX8_areLinked 28 = .ok (.iadd, 1) := by decide +kernel
theorem dX8_areLinked_29 : decode cX8_areLinked 29 = .ok (.iaload, 1) := by decide +kernel
theorem dX8_areLinked_30 : decode cX8_areLinked 30 = .ok (.iload_n 1, 1) := by decide +kernel
theorem dX8_areLinked_31 : decode cX8_areLinked 31 = .ok (.if_icmp .ne 17, 3) := by decide +kernel
theorem dX8_areLinked_34 : decode cX8_areLinked 34 = .ok (.aload_n 0, 1) := by decide +kernel
theorem dX8_areLinked_35 : decode cX8_areLinked 35 = .ok (.getfield 13, 3) := by decide +kernel
theorem dX8_areLinked_38 : decode cX8_areLinked 38 = .ok (.bipush 28, 2) := by decide +kernel
theorem dX8_areLinked_40 : decode cX8_areLinked 40 = .ok (.iload 4, 2) := by decide +kernel
theorem dX8_areLinked_42 : decode cX8_areLinked 42 = .ok (.iadd, 1) := by decide +kernel
theorem dX8_areLinked_43 : decode cX8_areLinked 43 = .ok (.iaload, 1) := by decide +kernel
theorem dX8_areLinked_44 : decode cX8_areLinked 44 = .ok (.iload_n 2, 1) := by decide +kernel
theorem dX8_areLinked_45 : decode cX8_areLinked 45 = .ok (.if_icmp .eq 31, 3) := by decide +kernel
theorem dX8_areLinked_48 : decode cX8_areLinked 48 = .ok (.aload_n 0, 1) := by decide +kernel
theorem dX8_areLinked_49 : decode cX8_areLinked 49 = .ok (.getfield 13, 3) := by decide +kernel
theorem dX8_areLinked_52 : decode cX8_areLinked 52 = .ok (.bipush 16, 2) := by decide +kernel
theorem dX8_areLinked_54 : decode cX8_areLinked 54 = .ok (.iload 4, 2) := by decide +kernel
theorem dX8_areLinked_56 : decode cX8_areLinked 56 = .ok (.iadd, 1) := by decide +kernel
theorem dX8_areLinked_57 : decode cX8_areLinked 57 = .ok (.iaload, 1) := by decide +kernel
theorem dX8_areLinked_58 : decode cX8_areLinked 58 = .ok (.iload_n 2, 1) := by decide +kernel
theorem dX8_areLinked_59 : decode cX8_areLinked 59 = .ok (.if_icmp .ne 21, 3) := by decide +kernel
theorem dX8_areLinked_62 : decode cX8_areLinked 62 = .ok (.aload_n 0, 1) := by decide +kernel
theorem dX8_areLinked_63 : decode cX8_areLinked 63 = .ok (.getfield 13, 3) := by decide +kernel
theorem dX8_areLinked_66 : decode cX8_areLinked 66 = .ok (.bipush 28, 2) := by decide +kernel
theorem dX8_areLinked_68 : decode cX8_areLinked 68 = .ok (.iload 4, 2) := by decide +kernel
theorem dX8_areLinked_70 : decode cX8_areLinked 70 = .ok (.iadd, 1) := by decide +kernel
theorem dX8_areLinked_71 : decode cX8_areLinked 71 = .ok (.iaload, 1) := by decide +kernel
theorem dX8_areLinked_72 : decode cX8_areLinked 72 = .ok (.iload_n 1, 1) := by decide +kernel
theorem dX8_areLinked_73 : decode cX8_areLinked 73 = .ok (.if_icmp .ne 7, 3) := by decide +kernel
theorem dX8_areLinked_76 : decode cX8_areLinked 76 = .ok (.iconst 1, 1) := by decide +kernel
theorem dX8_areLinked_77 : decode cX8_areLinked 77 = .ok (.goto 4, 3) := by decide +kernel
theorem dX8_areLinked_80 : decode cX8_areLinked 80 = .ok (.iconst 0, 1) := by decide +kernel
theorem dX8_areLinked_81 : decode cX8_areLinked 81 = .ok (.istore_n 3, 1) := by decide +kernel
theorem dX8_areLinked_82 : decode cX8_areLinked 82 = .ok (.iinc 4 1, 3) := by decide +kernel
theorem dX8_areLinked_85 : decode cX8_areLinked 85 = .ok (.goto (-80), 3) := by decide +kernel
theorem dX8_areLinked_88 : decode cX8_areLinked 88 = .ok (.iload_n 3, 1) := by decide +kernel
theorem dX8_areLinked_89 : decode cX8_areLinked 89 = .ok (.ireturn, 1) := by decide +kernel
theorem dX8_readsLink_0 : decode cX8_readsLink 0 = .ok (.aload_n 0, 1) := by decide +kernel
theorem dX8_readsLink_1 : decode cX8_readsLink 1 = .ok (.aload_n 0, 1) := by decide +kernel
theorem dX8_readsLink_2 : decode cX8_readsLink 2 = .ok (.getfield 13, 3) := by decide +kernel
theorem dX8_readsLink_5 : decode cX8_readsLink 5 = .ok (.iconst 1, 1) := by decide +kernel
theorem dX8_readsLink_6 : decode cX8_readsLink 6 = .ok (.iaload, 1) := by decide +kernel
theorem dX8_readsLink_7 : decode cX8_readsLink 7 = .ok (.bipush 12, 2) := by decide +kernel
theorem dX8_readsLink_9 : decode cX8_readsLink 9 = .ok (.if_icmp .ge 7, 3) := by decide +kernel
theorem dX8_readsLink_12 : decode cX8_readsLink 12 = .ok (.iconst 1, 1) := by decide +kernel
theorem dX8_readsLink_13 : decode cX8_readsLink 13 = .ok (.goto 4, 3) := by decide +kernel
theorem dX8_readsLink_16 : decode cX8_readsLink 16 = .ok (.iconst 0, 1) := by decide +kernel
theorem dX8_readsLink_17 : decode cX8_readsLink 17 = .ok (.invokevirtual 73, 3) := by decide +kernel
theorem dX8_readsLink_20 : decode cX8_readsLink 20 = .ok (.aload_n 0, 1) := by decide +kernel
theorem dX8_readsLink_21 : decode cX8_readsLink 21 = .ok (.iconst 0, 1) := by decide +kernel
theorem dX8_readsLink_22 : decode cX8_readsLink 22 = .ok (.aload_n 0, 1) := by decide +kernel
theorem dX8_readsLink_23 : decode cX8_readsLink 23 = .ok (.getfield 13, 3) := by decide +kernel
theorem dX8_readsLink_26 : decode cX8_readsLink 26 = .ok (.iconst 0, 1) := by decide +kernel
theorem dX8_readsLink_27 : decode cX8_readsLink 27 = .ok (.iaload, 1) := by decide +kernel
theorem dX8_readsLink_28 : decode cX8_readsLink 28 = .ok (.iconst 1, 1) := by decide +kernel
theorem dX8_readsLink_29 : decode cX8_readsLink 29 = .ok (.isub, 1) := by decide +kernel
theorem dX8_readsLink_30 : decode cX8_readsLink 30 = .ok (.invokevirtual 77, 3) := by decide +kernel
theorem dX8_readsLink_33 : decode cX8_readsLink 33 = .ok (.istore_n 1, 1) := by decide +kernel
theorem dX8_readsLink_34 : decode cX8_readsLink 34 = .ok (.aload_n 0, 1) := by decide +kernel
theorem dX8_readsLink_35 : decode cX8_readsLink 35 = .ok (.getfield 61, 3) := by decide +kernel
theorem dX8_readsLink_38 : decode cX8_readsLink 38 = .ok (.iconst 5, 1) := by decide +kernel
theorem dX8_readsLink_39 : decode cX8_readsLink 39 = .ok (.if_icmp .ne 17, 3) := by decide +kernel
theorem dX8_readsLink_42 : decode cX8_readsLink 42 = .ok (.aload_n 0, 1) := by decide +kernel
theorem dX8_readsLink_43 : decode cX8_readsLink 43 = .ok (.aload_n 0, 1) := by decide +kernel
theorem dX8_readsLink_44 : decode cX8_readsLink 44 = .ok (.getfield 47, 3) := by decide +kernel
theorem dX8_readsLink_47 : decode cX8_readsLink 47 = .ok (.invokevirtual 53, 3) := by decide +kernel
theorem dX8_readsLink_50 : decode cX8_readsLink 50 = .ok (.bipush 48, 2) := by decide +kernel
theorem dX8_readsLink_52 : decode cX8_readsLink 52 = .ok (.isub, 1) := by decide +kernel
theorem dX8_readsLink_53 : decode cX8_readsLink 53 = .ok (.goto 5, 3) := by decide +kernel
theorem dX8_readsLink_56 : decode cX8_readsLink 56 = .ok (.bipush (-9), 2) := by decide +kernel
theorem dX8_readsLink_58 : decode cX8_readsLink 58 = .ok (.istore_n 2, 1) := by decide +kernel
theorem dX8_readsLink_59 : decode cX8_readsLink 59 = .ok (.aload_n 0, 1) := by decide +kernel
theorem dX8_readsLink_60 : decode cX8_readsLink 60 = .ok (.iload_n 2, 1) := by decide +kernel
theorem dX8_readsLink_61 : decode cX8_readsLink 61 = .ok (.iconst 0, 1) := by decide +kernel
theorem dX8_readsLink_62 : decode cX8_readsLink 62 = .ok (.aload_n 0, 1) := by decide +kernel
theorem dX8_readsLink_63 : decode cX8_readsLink 63 = .ok (.getfield 13, 3) := by decide +kernel
theorem dX8_readsLink_66 : decode cX8_readsLink 66 = .ok (.iconst 0, 1) := by decide +kernel
theorem dX8_readsLink_67 : decode cX8_readsLink 67 = .ok (.iaload, 1) := by decide +kernel
theorem dX8_readsLink_68 : decode cX8_readsLink 68 = .ok (.iconst 1, 1) := by decide +kernel
theorem dX8_readsLink_69 : decode cX8_readsLink 69 = .ok (.isub, 1) := by decide +kernel
theorem dX8_readsLink_70 : decode cX8_readsLink 70 = .ok (.invokestatic 40, 3) := by decide +kernel
theorem dX8_readsLink_73 : decode cX8_readsLink 73 = .ok (.ifCond .eq 21, 3) := by decide +kernel
theorem dX8_readsLink_76 : decode cX8_readsLink 76 = .ok (.iload_n 2, 1) := by decide +kernel
theorem dX8_readsLink_77 : decode cX8_readsLink 77 = .ok (.iload_n 1, 1) := by decide +kernel
theorem dX8_readsLink_78 : decode cX8_readsLink 78 = .ok (.if_icmp .eq 16, 3) := by decide +kernel
theorem dX8_readsLink_81 : decode cX8_readsLink 81 = .ok (.aload_n 0, 1) := by decide +kernel
theorem dX8_readsLink_82 : decode cX8_readsLink 82 = .ok (.iload_n 1, 1) := by decide +kernel
theorem dX8_readsLink_83 : decode cX8_readsLink 83 = .ok (.iload_n 2, 1) := by decide +kernel
theorem dX8_readsLink_84 : decode cX8_readsLink 84 = .ok (.invokevirtual 81, 3) := by decide +kernel
theorem dX8_readsLink_87 : decode cX8_readsLink 87 = .ok (.ifCond .ne 7, 3) := by decide +kernel
theorem dX8_readsLink_90 : decode cX8_readsLink 90 = .ok (.iconst 1, 1) := by decide +kernel
theorem dX8_readsLink_91 : decode cX8_readsLink 91 = .ok (.goto 4, 3) := by decide +kernel
theorem dX8_readsLink_94 : decode cX8_readsLink 94 = .ok (.iconst 0, 1) := by decide +kernel
theorem dX8_readsLink_95 : decode cX8_readsLink 95 = .ok (.invokevirtual 73, 3) := by decide +kernel
theorem dX8_readsLink_98 : decode cX8_readsLink 98 = .ok (.aload_n 0, 1) := by decide +kernel
theorem dX8_readsLink_99 : decode cX8_readsLink 99 = .ok (.iconst 1, 1) := by decide +kernel
theorem dX8_readsLink_100 : decode cX8_readsLink 100 = .ok (.bipush 9, 2) := by decide +kernel
theorem dX8_readsLink_102 : decode cX8_readsLink 102 = .ok (.invokevirtual 77, 3) := by decide +kernel
theorem dX8_readsLink_105 : decode cX8_readsLink 105 = .ok (.istore_n 3, 1) := by decide +kernel
theorem dX8_readsLink_106 : decode cX8_readsLink 106 = .ok (.aload_n 0, 1) := by decide +kernel
theorem dX8_readsLink_107 : decode cX8_readsLink 107 = .ok (.getfield 67, 3) := by decide +kernel
theorem dX8_readsLink_110 : decode cX8_readsLink 110 = .ok (.bipush (-9), 2) := by decide +kernel
theorem dX8_readsLink_112 : decode cX8_readsLink 112 = .ok (.if_icmp .ne 54, 3) := by decide +kernel
theorem dX8_readsLink_115 : decode cX8_readsLink 115 = .ok (.aload_n 0, 1) := by decide +kernel
theorem dX8_readsLink_116 : decode cX8_readsLink 116 = .ok (.getfield 13, 3) := by decide +kernel
theorem dX8_readsLink_119 : decode cX8_readsLink 119 = .ok (.iconst 1, 1) := by decide +kernel
theorem dX8_readsLink_120 : decode cX8_readsLink 120 = .ok (.iaload, 1) := by decide +kernel
theorem dX8_readsLink_121 : decode cX8_readsLink 121 = .ok (.istore 4, 2) := by decide +kernel
theorem dX8_readsLink_123 : decode cX8_readsLink 123 = .ok (.aload_n 0, 1) := by decide +kernel
theorem dX8_readsLink_124 : decode cX8_readsLink 124 = .ok (.getfield 13, 3) := by decide +kernel
theorem dX8_readsLink_127 : decode cX8_readsLink 127 = .ok (.bipush 16, 2) := by decide +kernel
theorem dX8_readsLink_129 : decode cX8_readsLink 129 = .ok (.iload 4, 2) := by decide +kernel
theorem dX8_readsLink_131 : decode cX8_readsLink 131 = .ok (.iadd, 1) := by decide +kernel
theorem dX8_readsLink_132 : decode cX8_readsLink 132 = .ok (.iload_n 1, 1) := by decide +kernel
theorem dX8_readsLink_133 : decode cX8_readsLink 133 = .ok (.iastore, 1) := by decide +kernel
theorem dX8_readsLink_134 : decode cX8_readsLink 134 = .ok (.aload_n 0, 1) := by decide +kernel
theorem dX8_readsLink_135 : decode cX8_readsLink 135 = .ok (.getfield 13, 3) := by decide +kernel
theorem dX8_readsLink_138 : decode cX8_readsLink 138 = .ok (.bipush 28, 2) := by decide +kernel
theorem dX8_readsLink_140 : decode cX8_readsLink 140 = .ok (.iload 4, 2) := by decide +kernel
theorem dX8_readsLink_142 : decode cX8_readsLink 142 = .ok (.iadd, 1) := by decide +kernel
theorem dX8_readsLink_143 : decode cX8_readsLink 143 = .ok (.iload_n 2, 1) := by decide +kernel
theorem dX8_readsLink_144 : decode cX8_readsLink 144 = .ok (.iastore, 1) := by decide +kernel
theorem dX8_readsLink_145 : decode cX8_readsLink 145 = .ok (.aload_n 0, 1) := by decide +kernel
theorem dX8_readsLink_146 : decode cX8_readsLink 146 = .ok (.getfield 13, 3) := by decide +kernel
theorem dX8_readsLink_149 : decode cX8_readsLink 149 = .ok (.bipush 40, 2) := by decide +kernel
theorem dX8_readsLink_151 : decode cX8_readsLink 151 = .ok (.iload 4, 2) := by decide +kernel
theorem dX8_readsLink_153 : decode cX8_readsLink 153 = .ok (.iadd, 1) := by decide +kernel
theorem dX8_readsLink_154 : decode cX8_readsLink 154 = .ok (.iload_n 3, 1) := by decide +kernel
theorem dX8_readsLink_155 : decode cX8_readsLink 155 = .ok (.iastore, 1) := by decide +kernel
theorem dX8_readsLink_156 : decode cX8_readsLink 156 = .ok (.aload_n 0, 1) := by decide +kernel
theorem dX8_readsLink_157 : decode cX8_readsLink 157 = .ok (.getfield 13, 3) := by decide +kernel
theorem dX8_readsLink_160 : decode cX8_readsLink 160 = .ok (.iconst 1, 1) := by decide +kernel
theorem dX8_readsLink_161 : decode cX8_readsLink 161 = .ok (.dup2, 1) := by decide +kernel
theorem dX8_readsLink_162 : decode cX8_readsLink 162 = .ok (.iaload, 1) := by decide +kernel
theorem dX8_readsLink_163 : decode cX8_readsLink 163 = .ok (.iconst 1, 1) := by decide +kernel
theorem dX8_readsLink_164 : decode cX8_readsLink 164 = .ok (.iadd, 1) := by decide +kernel
theorem dX8_readsLink_165 : decode cX8_readsLink 165 = .ok (.iastore, 1) := by decide +kernel
theorem dX8_readsLink_166 : decode cX8_readsLink 166 = .ok (.return_, 1) := by decide +kernel
theorem dX8_reads_0 : decode cX8_reads 0 = .ok (.iconst 0, 1) := by decide +kernel
theorem dX8_reads_1 : decode cX8_reads 1 = .ok (.istore_n 1, 1) := by decide +kernel
theorem dX8_reads_2 : decode cX8_reads 2 = .ok (.iload_n 1, 1) := by decide +kernel
theorem dX8_reads_3 : decode cX8_reads 3 = .ok (.bipush 52, 2) := by decide +kernel
theorem dX8_reads_5 : decode cX8_reads 5 = .ok (.if_icmp .ge 16, 3) := by decide +kernel
theorem dX8_reads_8 : decode cX8_reads 8 = .ok (.aload_n 0, 1) := by decide +kernel
theorem dX8_reads_9 : decode cX8_reads 9 = .ok (.getfield 13, 3) := by decide +kernel
theorem dX8_reads_12 : decode cX8_reads 12 = .ok (.iload_n 1, 1) := by decide +kernel
theorem dX8_reads_13 : decode cX8_reads 13 = .ok (.iconst 0, 1) := by decide +kernel
theorem dX8_reads_14 : decode cX8_reads 14 = .ok (.iastore, 1) := by decide +kernel
theorem dX8_reads_15 : decode cX8_reads 15 = .ok (.iinc 1 1, 3) := by decide +kernel
theorem dX8_reads_18 : decode cX8_reads 18 = .ok (.goto (-16), 3) := by decide +kernel
theorem dX8_reads_21 : decode cX8_reads 21 = .ok (.aload_n 0, 1) := by decide +kernel
theorem dX8_reads_22 : decode cX8_reads 22 = .ok (.getfield 13, 3) := by decide +kernel
theorem dX8_reads_25 : decode cX8_reads 25 = .ok (.iconst 0, 1) := by decide +kernel
theorem dX8_reads_26 : decode cX8_reads 26 = .ok (.iconst 2, 1) := by decide +kernel
theorem dX8_reads_27 : decode cX8_reads 27 = .ok (.iastore, 1) := by decide +kernel
theorem dX8_reads_28 : decode cX8_reads 28 = .ok (.iconst 0, 1) := by decide +kernel
theorem dX8_reads_29 : decode cX8_reads 29 = .ok (.istore_n 1, 1) := by decide +kernel
theorem dX8_reads_30 : decode cX8_reads 30 = .ok (.aload_n 0, 1) := by decide +kernel
theorem dX8_reads_31 : decode cX8_reads 31 = .ok (.bipush (-9), 2) := by decide +kernel
theorem dX8_reads_33 : decode cX8_reads 33 = .ok (.putfield 67, 3) := by decide +kernel
theorem dX8_reads_36 : decode cX8_reads 36 = .ok (.aload_n 0, 1) := by decide +kernel
theorem dX8_reads_37 : decode cX8_reads 37 = .ok (.iconst 0, 1) := by decide +kernel
theorem dX8_reads_38 : decode cX8_reads 38 = .ok (.putfield 50, 3) := by decide +kernel
theorem dX8_reads_41 : decode cX8_reads 41 = .ok (.aload_n 0, 1) := by decide +kernel
theorem dX8_reads_42 : decode cX8_reads 42 = .ok (.invokevirtual 70, 3) := by decide +kernel
theorem dX8_reads_45 : decode cX8_reads 45 = .ok (.iconst 0, 1) := by decide +kernel
theorem dX8_reads_46 : decode cX8_reads 46 = .ok (.istore_n 2, 1) := by decide +kernel
theorem dX8_reads_47 : decode cX8_reads 47 = .ok (.aload_n 0, 1) := by decide +kernel
theorem dX8_reads_48 : decode cX8_reads 48 = .ok (.getfield 67, 3) := by decide +kernel
theorem dX8_reads_51 : decode cX8_reads 51 = .ok (.bipush (-9), 2) := by decide +kernel
theorem dX8_reads_53 : decode cX8_reads 53 = .ok (.if_icmp .ne 166, 3) := by decide +kernel
theorem dX8_reads_56 : decode cX8_reads 56 = .ok (.aload_n 0, 1) := by decide +kernel
theorem dX8_reads_57 : decode cX8_reads 57 = .ok (.getfield 61, 3) := by decide +kernel
theorem dX8_reads_60 : decode cX8_reads 60 = .ok (.ifCond .eq 159, 3) := by decide +kernel
theorem dX8_reads_63 : decode cX8_reads 63 = .ok (.aload_n 0, 1) := by decide +kernel
theorem dX8_reads_64 : decode cX8_reads 64 = .ok (.getfield 61, 3) := by decide +kernel
theorem dX8_reads_67 : decode cX8_reads 67 = .ok (.tableswitch 123 1 4 #[29, 58, 95, 116], 29) := by decide +kernel
theorem dX8_reads_96 : decode cX8_reads 96 = .ok (.aload_n 0, 1) := by decide +kernel
theorem dX8_reads_97 : decode cX8_reads 97 = .ok (.iload_n 2, 1) := by decide +kernel
theorem dX8_reads_98 : decode cX8_reads 98 = .ok (.ifCond .ne 7, 3) := by decide +kernel
theorem dX8_reads_101 : decode cX8_reads 101 = .ok (.iconst 1, 1) := by decide +kernel
theorem dX8_reads_102 : decode cX8_reads 102 = .ok (.goto 4, 3) := by decide +kernel
theorem dX8_reads_105 : decode cX8_reads 105 = .ok (.iconst 0, 1) := by decide +kernel
theorem dX8_reads_106 : decode cX8_reads 106 = .ok (.invokevirtual 73, 3) := by decide +kernel
theorem dX8_reads_109 : decode cX8_reads 109 = .ok (.aload_n 0, 1) := by decide +kernel
theorem dX8_reads_110 : decode cX8_reads 110 = .ok (.getfield 13, 3) := by decide +kernel
theorem dX8_reads_113 : decode cX8_reads 113 = .ok (.iconst 0, 1) := by decide +kernel
theorem dX8_reads_114 : decode cX8_reads 114 = .ok (.aload_n 0, 1) := by decide +kernel
theorem dX8_reads_115 : decode cX8_reads 115 = .ok (.iconst 2, 1) := by decide +kernel
theorem dX8_reads_116 : decode cX8_reads 116 = .ok (.bipush 7, 2) := by decide +kernel
theorem dX8_reads_118 : decode cX8_reads 118 = .ok (.invokevirtual 77, 3) := by decide +kernel
theorem dX8_reads_121 : decode cX8_reads 121 = .ok (.iastore, 1) := by decide +kernel
theorem dX8_reads_122 : decode cX8_reads 122 = .ok (.goto 73, 3) := by decide +kernel
theorem dX8_reads_125 : decode cX8_reads 125 = .ok (.aload_n 0, 1) := by decide +kernel
theorem dX8_reads_126 : decode cX8_reads 126 = .ok (.iload_n 1, 1) := by decide +kernel
theorem dX8_reads_127 : decode cX8_reads 127 = .ok (.ifCond .ne 7, 3) := by decide +kernel
theorem dX8_reads_130 : decode cX8_reads 130 = .ok (.iconst 1, 1) := by decide +kernel
theorem dX8_reads_131 : decode cX8_reads 131 = .ok (.goto 4, 3) := by decide +kernel
theorem dX8_reads_134 : decode cX8_reads 134 = .ok (.iconst 0, 1) := by decide +kernel
theorem dX8_reads_135 : decode cX8_reads 135 = .ok (.invokevirtual 73, 3) := by decide +kernel
theorem dX8_reads_138 : decode cX8_reads 138 = .ok (.iconst 1, 1) := by decide +kernel
theorem dX8_reads_139 : decode cX8_reads 139 = .ok (.istore_n 1, 1) := by decide +kernel
theorem dX8_reads_140 : decode cX8_reads 140 = .ok (.aload_n 0, 1) := by decide +kernel
theorem dX8_reads_141 : decode cX8_reads 141 = .ok (.getfield 13, 3) := by decide +kernel
theorem dX8_reads_144 : decode cX8_reads 144 = .ok (.iconst 2, 1) := by decide +kernel
theorem dX8_reads_145 : decode cX8_reads 145 = .ok (.aload_n 0, 1) := by decide +kernel
theorem dX8_reads_146 : decode cX8_reads 146 = .ok (.iconst 0, 1) := by decide +kernel
theorem dX8_reads_147 : decode cX8_reads 147 = .ok (.aload_n 0, 1) := by decide +kernel
theorem dX8_reads_148 : decode cX8_reads 148 = .ok (.getfield 13, 3) := by decide +kernel
theorem dX8_reads_151 : decode cX8_reads 151 = .ok (.iconst 0, 1) := by decide +kernel
theorem dX8_reads_152 : decode cX8_reads 152 = .ok (.iaload, 1) := by decide +kernel
theorem dX8_reads_153 : decode cX8_reads 153 = .ok (.iconst 1, 1) := by decide +kernel
theorem dX8_reads_154 : decode cX8_reads 154 = .ok (.isub, 1) := by decide +kernel
theorem dX8_reads_155 : decode cX8_reads 155 = .ok (.invokevirtual 77, 3) := by decide +kernel
theorem dX8_reads_158 : decode cX8_reads 158 = .ok (.iastore, 1) := by decide +kernel
theorem dX8_reads_159 : decode cX8_reads 159 = .ok (.goto 36, 3) := by decide +kernel
theorem dX8_reads_162 : decode cX8_reads 162 = .ok (.aload_n 0, 1) := by decide +kernel
theorem dX8_reads_163 : decode cX8_reads 163 = .ok (.iconst 1, 1) := by decide +kernel
theorem dX8_reads_164 : decode cX8_reads 164 = .ok (.invokevirtual 73, 3) := by decide +kernel
theorem dX8_reads_167 : decode cX8_reads 167 = .ok (.aload_n 0, 1) := by decide +kernel
theorem dX8_reads_168 : decode cX8_reads 168 = .ok (.getfield 13, 3) := by decide +kernel
theorem dX8_reads_171 : decode cX8_reads 171 = .ok (.iconst 3, 1) := by decide +kernel
theorem dX8_reads_172 : decode cX8_reads 172 = .ok (.aload_n 0, 1) := by decide +kernel
theorem dX8_reads_173 : decode cX8_reads 173 = .ok (.iconst 0, 1) := by decide +kernel
theorem dX8_reads_174 : decode cX8_reads 174 = .ok (.bipush 9, 2) := by decide +kernel
theorem dX8_reads_176 : decode cX8_reads 176 = .ok (.invokevirtual 77, 3) := by decide +kernel
theorem dX8_reads_179 : decode cX8_reads 179 = .ok (.iastore, 1) := by decide +kernel
theorem dX8_reads_180 : decode cX8_reads 180 = .ok (.goto 15, 3) := by decide +kernel
theorem dX8_reads_183 : decode cX8_reads 183 = .ok (.aload_n 0, 1) := by decide +kernel
theorem dX8_reads_184 : decode cX8_reads 184 = .ok (.invokevirtual 85, 3) := by decide +kernel
theorem dX8_reads_187 : decode cX8_reads 187 = .ok (.goto 8, 3) := by decide +kernel
theorem dX8_reads_190 : decode cX8_reads 190 = .ok (.aload_n 0, 1) := by decide +kernel
theorem dX8_reads_191 : decode cX8_reads 191 = .ok (.iconst 0, 1) := by decide +kernel
theorem dX8_reads_192 : decode cX8_reads 192 = .ok (.invokevirtual 73, 3) := by decide +kernel
theorem dX8_reads_195 : decode cX8_reads 195 = .ok (.aload_n 0, 1) := by decide +kernel
theorem dX8_reads_196 : decode cX8_reads 196 = .ok (.aload_n 0, 1) := by decide +kernel
theorem dX8_reads_197 : decode cX8_reads 197 = .ok (.getfield 61, 3) := by decide +kernel
theorem dX8_reads_200 : decode cX8_reads 200 = .ok (.bipush 6, 2) := by decide +kernel
theorem dX8_reads_202 : decode cX8_reads 202 = .ok (.if_icmp .ne 7, 3) := by decide +kernel
theorem dX8_reads_205 : decode cX8_reads 205 = .ok (.iconst 1, 1) := by decide +kernel
theorem dX8_reads_206 : decode cX8_reads 206 = .ok (.goto 4, 3) := by decide +kernel
theorem dX8_reads_209 : decode cX8_reads 209 = .ok (.iconst 0, 1) := by decide +kernel
theorem dX8_reads_210 : decode cX8_reads 210 = .ok (.invokevirtual 73, 3) := by decide +kernel
theorem dX8_reads_213 : decode cX8_reads 213 = .ok (.iinc 2 1, 3) := by decide +kernel
theorem dX8_reads_216 : decode cX8_reads 216 = .ok (.goto (-169), 3) := by decide +kernel
theorem dX8_reads_219 : decode cX8_reads 219 = .ok (.iload_n 2, 1) := by decide +kernel
theorem dX8_reads_220 : decode cX8_reads 220 = .ok (.ireturn, 1) := by decide +kernel
theorem dX8_tells_0 : decode cX8_tells 0 = .ok (.aload_n 0, 1) := by decide +kernel
theorem dX8_tells_1 : decode cX8_tells 1 = .ok (.iconst 0, 1) := by decide +kernel
theorem dX8_tells_2 : decode cX8_tells 2 = .ok (.putfield 36, 3) := by decide +kernel
theorem dX8_tells_5 : decode cX8_tells 5 = .ok (.aload_n 0, 1) := by decide +kernel
theorem dX8_tells_6 : decode cX8_tells 6 = .ok (.invokevirtual 88, 3) := by decide +kernel
theorem dX8_tells_9 : decode cX8_tells 9 = .ok (.istore_n 1, 1) := by decide +kernel
theorem dX8_tells_10 : decode cX8_tells 10 = .ok (.aload_n 0, 1) := by decide +kernel
theorem dX8_tells_11 : decode cX8_tells 11 = .ok (.getfield 67, 3) := by decide +kernel
theorem dX8_tells_14 : decode cX8_tells 14 = .ok (.bipush (-9), 2) := by decide +kernel
theorem dX8_tells_16 : decode cX8_tells 16 = .ok (.if_icmp .eq 11, 3) := by decide +kernel
theorem dX8_tells_19 : decode cX8_tells 19 = .ok (.bipush (-10), 2) := by decide +kernel
theorem dX8_tells_21 : decode cX8_tells 21 = .ok (.aload_n 0, 1) := by decide +kernel
theorem dX8_tells_22 : decode cX8_tells 22 = .ok (.getfield 67, 3) := by decide +kernel
theorem dX8_tells_25 : decode cX8_tells 25 = .ok (.isub, 1) := by decide +kernel
theorem dX8_tells_26 : decode cX8_tells 26 = .ok (.ireturn, 1) := by decide +kernel
theorem dX8_tells_27 : decode cX8_tells 27 = .ok (.aload_n 0, 1) := by decide +kernel
theorem dX8_tells_28 : decode cX8_tells 28 = .ok (.invokevirtual 91, 3) := by decide +kernel
theorem dX8_tells_31 : decode cX8_tells 31 = .ok (.iconst 0, 1) := by decide +kernel
theorem dX8_tells_32 : decode cX8_tells 32 = .ok (.istore_n 2, 1) := by decide +kernel
theorem dX8_tells_33 : decode cX8_tells 33 = .ok (.iload_n 2, 1) := by decide +kernel
theorem dX8_tells_34 : decode cX8_tells 34 = .ok (.bipush 52, 2) := by decide +kernel
theorem dX8_tells_36 : decode cX8_tells 36 = .ok (.if_icmp .ge 21, 3) := by decide +kernel
theorem dX8_tells_39 : decode cX8_tells 39 = .ok (.aload_n 0, 1) := by decide +kernel
theorem dX8_tells_40 : decode cX8_tells 40 = .ok (.getfield 7, 3) := by decide +kernel
theorem dX8_tells_43 : decode cX8_tells 43 = .ok (.iload_n 2, 1) := by decide +kernel
theorem dX8_tells_44 : decode cX8_tells 44 = .ok (.aload_n 0, 1) := by decide +kernel
theorem dX8_tells_45 : decode cX8_tells 45 = .ok (.getfield 13, 3) := by decide +kernel
theorem dX8_tells_48 : decode cX8_tells 48 = .ok (.iload_n 2, 1) := by decide +kernel
theorem dX8_tells_49 : decode cX8_tells 49 = .ok (.iaload, 1) := by decide +kernel
theorem dX8_tells_50 : decode cX8_tells 50 = .ok (.iastore, 1) := by decide +kernel
theorem dX8_tells_51 : decode cX8_tells 51 = .ok (.iinc 2 1, 3) := by decide +kernel
theorem dX8_tells_54 : decode cX8_tells 54 = .ok (.goto (-21), 3) := by decide +kernel
theorem dX8_tells_57 : decode cX8_tells 57 = .ok (.aload_n 0, 1) := by decide +kernel
theorem dX8_tells_58 : decode cX8_tells 58 = .ok (.iconst 0, 1) := by decide +kernel
theorem dX8_tells_59 : decode cX8_tells 59 = .ok (.putfield 44, 3) := by decide +kernel
theorem dX8_tells_62 : decode cX8_tells 62 = .ok (.iload_n 1, 1) := by decide +kernel
theorem dX8_tells_63 : decode cX8_tells 63 = .ok (.ireturn, 1) := by decide +kernel
theorem dX8_nodesOf_0 : decode cX8_nodesOf 0 = .ok (.iconst 1, 1) := by decide +kernel
theorem dX8_nodesOf_1 : decode cX8_nodesOf 1 = .ok (.aload_n 0, 1) := by decide +kernel
theorem dX8_nodesOf_2 : decode cX8_nodesOf 2 = .ok (.getfield 7, 3) := by decide +kernel
theorem dX8_nodesOf_5 : decode cX8_nodesOf 5 = .ok (.iconst 2, 1) := by decide +kernel
theorem dX8_nodesOf_6 : decode cX8_nodesOf 6 = .ok (.iaload, 1) := by decide +kernel
theorem dX8_nodesOf_7 : decode cX8_nodesOf 7 = .ok (.ishl, 1) := by decide +kernel
theorem dX8_nodesOf_8 : decode cX8_nodesOf 8 = .ok (.istore_n 2, 1) := by decide +kernel
theorem dX8_nodesOf_9 : decode cX8_nodesOf 9 = .ok (.iconst 0, 1) := by decide +kernel
theorem dX8_nodesOf_10 : decode cX8_nodesOf 10 = .ok (.istore_n 3, 1) := by decide +kernel
theorem dX8_nodesOf_11 : decode cX8_nodesOf 11 = .ok (.iload_n 3, 1) := by decide +kernel
theorem dX8_nodesOf_12 : decode cX8_nodesOf 12 = .ok (.iload_n 2, 1) := by decide +kernel
theorem dX8_nodesOf_13 : decode cX8_nodesOf 13 = .ok (.if_icmp .eq 115, 3) := by decide +kernel
theorem dX8_nodesOf_16 : decode cX8_nodesOf 16 = .ok (.iload_n 2, 1) := by decide +kernel
theorem dX8_nodesOf_17 : decode cX8_nodesOf 17 = .ok (.istore_n 3, 1) := by decide +kernel
theorem dX8_nodesOf_18 : decode cX8_nodesOf 18 = .ok (.iconst 0, 1) := by decide +kernel
theorem dX8_nodesOf_19 : decode cX8_nodesOf 19 = .ok (.istore 4, 2) := by decide +kernel
theorem dX8_nodesOf_21 : decode cX8_nodesOf 21 = .ok (.iload 4, 2) := by decide +kernel
theorem dX8_nodesOf_23 : decode cX8_nodesOf 23 = .ok (.aload_n 0, 1) := by decide +kernel
theorem dX8_nodesOf_24 : decode cX8_nodesOf 24 = .ok (.getfield 7, 3) := by decide +kernel
theorem dX8_nodesOf_27 : decode cX8_nodesOf 27 = .ok (.iconst 1, 1) := by decide +kernel
theorem dX8_nodesOf_28 : decode cX8_nodesOf 28 = .ok (.iaload, 1) := by decide +kernel
theorem dX8_nodesOf_29 : decode cX8_nodesOf 29 = .ok (.if_icmp .ge 96, 3) := by decide +kernel
theorem dX8_nodesOf_32 : decode cX8_nodesOf 32 = .ok (.iload_n 1, 1) := by decide +kernel
theorem dX8_nodesOf_33 : decode cX8_nodesOf 33 = .ok (.iload 4, 2) := by decide +kernel
theorem dX8_nodesOf_35 : decode cX8_nodesOf 35 = .ok (.invokestatic 94, 3) := by decide +kernel
theorem dX8_nodesOf_38 : decode cX8_nodesOf 38 = .ok (.ifCond .eq 41, 3) := by decide +kernel
theorem dX8_nodesOf_41 : decode cX8_nodesOf 41 = .ok (.iload_n 2, 1) := by decide +kernel
theorem dX8_nodesOf_42 : decode cX8_nodesOf 42 = .ok (.aload_n 0, 1) := by decide +kernel
theorem dX8_nodesOf_43 : decode cX8_nodesOf 43 = .ok (.getfield 7, 3) := by decide +kernel
theorem dX8_nodesOf_46 : decode cX8_nodesOf 46 = .ok (.bipush 16, 2) := by decide +kernel
theorem dX8_nodesOf_48 : decode cX8_nodesOf 48 = .ok (.iload 4, 2) := by decide +kernel
theorem dX8_nodesOf_50 : decode cX8_nodesOf 50 = .ok (.iadd, 1) := by decide +kernel
theorem dX8_nodesOf_51 : decode cX8_nodesOf 51 = .ok (.iaload, 1) := by decide +kernel
theorem dX8_nodesOf_52 : decode cX8_nodesOf 52 = .ok (.invokestatic 94, 3) := by decide +kernel
theorem dX8_nodesOf_55 : decode cX8_nodesOf 55 = .ok (.ifCond .ne 20, 3) := by decide +kernel
theorem dX8_nodesOf_58 : decode cX8_nodesOf 58 = .ok (.iload_n 2, 1) := by decide +kernel
theorem dX8_nodesOf_59 : decode cX8_nodesOf 59 = .ok (.aload_n 0, 1) := by decide +kernel
theorem dX8_nodesOf_60 : decode cX8_nodesOf 60 = .ok (.getfield 7, 3) := by decide +kernel
theorem dX8_nodesOf_63 : decode cX8_nodesOf 63 = .ok (.bipush 28, 2) := by decide +kernel
theorem dX8_nodesOf_65 : decode cX8_nodesOf 65 = .ok (.iload 4, 2) := by decide +kernel
theorem dX8_nodesOf_67 : decode cX8_nodesOf 67 = .ok (.iadd, 1) := by decide +kernel
theorem dX8_nodesOf_68 : decode cX8_nodesOf 68 = .ok (.iaload, 1) := by decide +kernel
theorem dX8_nodesOf_69 : decode cX8_nodesOf 69 = .ok (.invokestatic 94, 3) := by decide +kernel
theorem dX8_nodesOf_72 : decode cX8_nodesOf 72 = .ok (.ifCond .eq 7, 3) := by decide +kernel
theorem dX8_nodesOf_75 : decode cX8_nodesOf 75 = .ok (.iconst 1, 1) := by decide +kernel
theorem dX8_nodesOf_76 : decode cX8_nodesOf 76 = .ok (.goto 4, 3) := by decide +kernel
theorem dX8_nodesOf_79 : decode cX8_nodesOf 79 = .ok (.iconst 0, 1) := by decide +kernel
theorem dX8_nodesOf_80 : decode cX8_nodesOf 80 = .ok (.istore 5, 2) := by decide +kernel
theorem dX8_nodesOf_82 : decode cX8_nodesOf 82 = .ok (.iload_n 2, 1) := by decide +kernel
theorem dX8_nodesOf_83 : decode cX8_nodesOf 83 = .ok (.iload 5, 2) := by decide +kernel
theorem dX8_nodesOf_85 : decode cX8_nodesOf 85 = .ok (.ifCond .eq 31, 3) := by decide +kernel
theorem dX8_nodesOf_88 : decode cX8_nodesOf 88 = .ok (.iconst 1, 1) := by decide +kernel
theorem dX8_nodesOf_89 : decode cX8_nodesOf 89 = .ok (.aload_n 0, 1) := by decide +kernel
theorem dX8_nodesOf_90 : decode cX8_nodesOf 90 = .ok (.getfield 7, 3) := by decide +kernel
theorem dX8_nodesOf_93 : decode cX8_nodesOf 93 = .ok (.bipush 16, 2) := by decide +kernel
theorem dX8_nodesOf_95 : decode cX8_nodesOf 95 = .ok (.iload 4, 2) := by decide +kernel
theorem dX8_nodesOf_97 : decode cX8_nodesOf 97 = .ok (.iadd, 1) := by decide +kernel
theorem dX8_nodesOf_98 : decode cX8_nodesOf 98 = .ok (.iaload, 1) := by decide +kernel
theorem dX8_nodesOf_99 : decode cX8_nodesOf 99 = .ok (.ishl, 1) := by decide +kernel
theorem dX8_nodesOf_100 : decode cX8_nodesOf 100 = .ok (.iconst 1, 1) := by decide +kernel
theorem dX8_nodesOf_101 : decode cX8_nodesOf 101 = .ok (.aload_n 0, 1) := by decide +kernel
theorem dX8_nodesOf_102 : decode cX8_nodesOf 102 = .ok (.getfield 7, 3) := by decide +kernel
theorem dX8_nodesOf_105 : decode cX8_nodesOf 105 = .ok (.bipush 28, 2) := by decide +kernel
theorem dX8_nodesOf_107 : decode cX8_nodesOf 107 = .ok (.iload 4, 2) := by decide +kernel
theorem dX8_nodesOf_109 : decode cX8_nodesOf 109 = .ok (.iadd, 1) := by decide +kernel
theorem dX8_nodesOf_110 : decode cX8_nodesOf 110 = .ok (.iaload, 1) := by decide +kernel
theorem dX8_nodesOf_111 : decode cX8_nodesOf 111 = .ok (.ishl, 1) := by decide +kernel
theorem dX8_nodesOf_112 : decode cX8_nodesOf 112 = .ok (.ior, 1) := by decide +kernel
theorem dX8_nodesOf_113 : decode cX8_nodesOf 113 = .ok (.goto 4, 3) := by decide +kernel
theorem dX8_nodesOf_116 : decode cX8_nodesOf 116 = .ok (.iconst 0, 1) := by decide +kernel
theorem dX8_nodesOf_117 : decode cX8_nodesOf 117 = .ok (.ior, 1) := by decide +kernel
theorem dX8_nodesOf_118 : decode cX8_nodesOf 118 = .ok (.istore_n 2, 1) := by decide +kernel
theorem dX8_nodesOf_119 : decode cX8_nodesOf 119 = .ok (.iinc 4 1, 3) := by decide +kernel
theorem dX8_nodesOf_122 : decode cX8_nodesOf 122 = .ok (.goto (-101), 3) := by decide +kernel
theorem dX8_nodesOf_125 : decode cX8_nodesOf 125 = .ok (.goto (-114), 3) := by decide +kernel
theorem dX8_nodesOf_128 : decode cX8_nodesOf 128 = .ok (.iload_n 2, 1) := by decide +kernel
theorem dX8_nodesOf_129 : decode cX8_nodesOf 129 = .ok (.ireturn, 1) := by decide +kernel
theorem dX8_costOf_0 : decode cX8_costOf 0 = .ok (.iconst 0, 1) := by decide +kernel
theorem dX8_costOf_1 : decode cX8_costOf 1 = .ok (.istore_n 2, 1) := by decide +kernel
theorem dX8_costOf_2 : decode cX8_costOf 2 = .ok (.iconst 0, 1) := by decide +kernel
theorem dX8_costOf_3 : decode cX8_costOf 3 = .ok (.istore_n 3, 1) := by decide +kernel
theorem dX8_costOf_4 : decode cX8_costOf 4 = .ok (.iload_n 3, 1) := by decide +kernel
theorem dX8_costOf_5 : decode cX8_costOf 5 = .ok (.aload_n 0, 1) := by decide +kernel
theorem dX8_costOf_6 : decode cX8_costOf 6 = .ok (.getfield 7, 3) := by decide +kernel
theorem dX8_costOf_9 : decode cX8_costOf 9 = .ok (.iconst 1, 1) := by decide +kernel
theorem dX8_costOf_10 : decode cX8_costOf 10 = .ok (.iaload, 1) := by decide +kernel
theorem dX8_costOf_11 : decode cX8_costOf 11 = .ok (.if_icmp .ge 33, 3) := by decide +kernel
theorem dX8_costOf_14 : decode cX8_costOf 14 = .ok (.iload_n 2, 1) := by decide +kernel
theorem dX8_costOf_15 : decode cX8_costOf 15 = .ok (.iload_n 1, 1) := by decide +kernel
theorem dX8_costOf_16 : decode cX8_costOf 16 = .ok (.iload_n 3, 1) := by decide +kernel
theorem dX8_costOf_17 : decode cX8_costOf 17 = .ok (.invokestatic 94, 3) := by decide +kernel
theorem dX8_costOf_20 : decode cX8_costOf 20 = .ok (.ifCond .eq 15, 3) := by decide +kernel
theorem dX8_costOf_23 : decode cX8_costOf 23 = .ok (.aload_n 0, 1) := by decide +kernel
theorem dX8_costOf_24 : decode cX8_costOf 24 = .ok (.getfield 7, 3) := by decide +kernel
theorem dX8_costOf_27 : decode cX8_costOf 27 = .ok (.bipush 40, 2) := by decide +kernel
theorem dX8_costOf_29 : decode cX8_costOf 29 = .ok (.iload_n 3, 1) := by decide +kernel
theorem dX8_costOf_30 : decode cX8_costOf 30 = .ok (.iadd, 1) := by decide +kernel
theorem dX8_costOf_31 : decode cX8_costOf 31 = .ok (.iaload, 1) := by decide +kernel
theorem dX8_costOf_32 : decode cX8_costOf 32 = .ok (.goto 4, 3) := by decide +kernel
theorem dX8_costOf_35 : decode cX8_costOf 35 = .ok (.iconst 0, 1) := by decide +kernel
theorem dX8_costOf_36 : decode cX8_costOf 36 = .ok (.iadd, 1) := by decide +kernel
theorem dX8_costOf_37 : decode cX8_costOf 37 = .ok (.istore_n 2, 1) := by decide +kernel
theorem dX8_costOf_38 : decode cX8_costOf 38 = .ok (.iinc 3 1, 3) := by decide +kernel
theorem dX8_costOf_41 : decode cX8_costOf 41 = .ok (.goto (-37), 3) := by decide +kernel
theorem dX8_costOf_44 : decode cX8_costOf 44 = .ok (.iload_n 2, 1) := by decide +kernel
theorem dX8_costOf_45 : decode cX8_costOf 45 = .ok (.ireturn, 1) := by decide +kernel
theorem dX8_beyond_0 : decode cX8_beyond 0 = .ok (.aload_n 0, 1) := by decide +kernel
theorem dX8_beyond_1 : decode cX8_beyond 1 = .ok (.getfield 7, 3) := by decide +kernel
theorem dX8_beyond_4 : decode cX8_beyond 4 = .ok (.bipush 16, 2) := by decide +kernel
theorem dX8_beyond_6 : decode cX8_beyond 6 = .ok (.iload_n 1, 1) := by decide +kernel
theorem dX8_beyond_7 : decode cX8_beyond 7 = .ok (.iadd, 1) := by decide +kernel
theorem dX8_beyond_8 : decode cX8_beyond 8 = .ok (.iaload, 1) := by decide +kernel
theorem dX8_beyond_9 : decode cX8_beyond 9 = .ok (.iload_n 2, 1) := by decide +kernel
theorem dX8_beyond_10 : decode cX8_beyond 10 = .ok (.if_icmp .ne 15, 3) := by decide +kernel
theorem dX8_beyond_13 : decode cX8_beyond 13 = .ok (.aload_n 0, 1) := by decide +kernel
theorem dX8_beyond_14 : decode cX8_beyond 14 = .ok (.getfield 7, 3) := by decide +kernel
theorem dX8_beyond_17 : decode cX8_beyond 17 = .ok (.bipush 28, 2) := by decide +kernel
theorem dX8_beyond_19 : decode cX8_beyond 19 = .ok (.iload_n 1, 1) := by decide +kernel
theorem dX8_beyond_20 : decode cX8_beyond 20 = .ok (.iadd, 1) := by decide +kernel
theorem dX8_beyond_21 : decode cX8_beyond 21 = .ok (.iaload, 1) := by decide +kernel
theorem dX8_beyond_22 : decode cX8_beyond 22 = .ok (.goto 30, 3) := by decide +kernel
theorem dX8_beyond_25 : decode cX8_beyond 25 = .ok (.aload_n 0, 1) := by decide +kernel
theorem dX8_beyond_26 : decode cX8_beyond 26 = .ok (.getfield 7, 3) := by decide +kernel
theorem dX8_beyond_29 : decode cX8_beyond 29 = .ok (.bipush 28, 2) := by decide +kernel
theorem dX8_beyond_31 : decode cX8_beyond 31 = .ok (.iload_n 1, 1) := by decide +kernel
theorem dX8_beyond_32 : decode cX8_beyond 32 = .ok (.iadd, 1) := by decide +kernel
theorem dX8_beyond_33 : decode cX8_beyond 33 = .ok (.iaload, 1) := by decide +kernel
theorem dX8_beyond_34 : decode cX8_beyond 34 = .ok (.iload_n 2, 1) := by decide +kernel
theorem dX8_beyond_35 : decode cX8_beyond 35 = .ok (.if_icmp .ne 15, 3) := by decide +kernel
theorem dX8_beyond_38 : decode cX8_beyond 38 = .ok (.aload_n 0, 1) := by decide +kernel
theorem dX8_beyond_39 : decode cX8_beyond 39 = .ok (.getfield 7, 3) := by decide +kernel
theorem dX8_beyond_42 : decode cX8_beyond 42 = .ok (.bipush 16, 2) := by decide +kernel
theorem dX8_beyond_44 : decode cX8_beyond 44 = .ok (.iload_n 1, 1) := by decide +kernel
theorem dX8_beyond_45 : decode cX8_beyond 45 = .ok (.iadd, 1) := by decide +kernel
theorem dX8_beyond_46 : decode cX8_beyond 46 = .ok (.iaload, 1) := by decide +kernel
theorem dX8_beyond_47 : decode cX8_beyond 47 = .ok (.goto 5, 3) := by decide +kernel
theorem dX8_beyond_50 : decode cX8_beyond 50 = .ok (.bipush (-9), 2) := by decide +kernel
theorem dX8_beyond_52 : decode cX8_beyond 52 = .ok (.ireturn, 1) := by decide +kernel
theorem dX8_measures_0 : decode cX8_measures 0 = .ok (.iconst 0, 1) := by decide +kernel
theorem dX8_measures_1 : decode cX8_measures 1 = .ok (.istore_n 2, 1) := by decide +kernel
theorem dX8_measures_2 : decode cX8_measures 2 = .ok (.iload_n 2, 1) := by decide +kernel
theorem dX8_measures_3 : decode cX8_measures 3 = .ok (.aload_n 0, 1) := by decide +kernel
theorem dX8_measures_4 : decode cX8_measures 4 = .ok (.getfield 7, 3) := by decide +kernel
theorem dX8_measures_7 : decode cX8_measures 7 = .ok (.iconst 0, 1) := by decide +kernel
theorem dX8_measures_8 : decode cX8_measures 8 = .ok (.iaload, 1) := by decide +kernel
theorem dX8_measures_9 : decode cX8_measures 9 = .ok (.if_icmp .ge 29, 3) := by decide +kernel
theorem dX8_measures_12 : decode cX8_measures 12 = .ok (.aload_n 0, 1) := by decide +kernel
theorem dX8_measures_13 : decode cX8_measures 13 = .ok (.getfield 33, 3) := by decide +kernel
theorem dX8_measures_16 : decode cX8_measures 16 = .ok (.iload_n 2, 1) := by decide +kernel
theorem dX8_measures_17 : decode cX8_measures 17 = .ok (.iload_n 1, 1) := by decide +kernel
theorem dX8_measures_18 : decode cX8_measures 18 = .ok (.iload_n 2, 1) := by decide +kernel
theorem dX8_measures_19 : decode cX8_measures 19 = .ok (.invokestatic 94, 3) := by decide +kernel
theorem dX8_measures_22 : decode cX8_measures 22 = .ok (.ifCond .eq 7, 3) := by decide +kernel
theorem dX8_measures_25 : decode cX8_measures 25 = .ok (.iconst 0, 1) := by decide +kernel
theorem dX8_measures_26 : decode cX8_measures 26 = .ok (.goto 5, 3) := by decide +kernel
theorem dX8_measures_29 : decode cX8_measures 29 = .ok (.ldc 97, 2) := by decide +kernel
theorem dX8_measures_31 : decode cX8_measures 31 = .ok (.iastore, 1) := by decide +kernel
theorem dX8_measures_32 : decode cX8_measures 32 = .ok (.iinc 2 1, 3) := by decide +kernel
theorem dX8_measures_35 : decode cX8_measures 35 = .ok (.goto (-33), 3) := by decide +kernel
theorem dX8_measures_38 : decode cX8_measures 38 = .ok (.iconst 0, 1) := by decide +kernel
theorem dX8_measures_39 : decode cX8_measures 39 = .ok (.istore_n 2, 1) := by decide +kernel
theorem dX8_measures_40 : decode cX8_measures 40 = .ok (.iload_n 2, 1) := by decide +kernel
theorem dX8_measures_41 : decode cX8_measures 41 = .ok (.aload_n 0, 1) := by decide +kernel
theorem dX8_measures_42 : decode cX8_measures 42 = .ok (.getfield 7, 3) := by decide +kernel
theorem dX8_measures_45 : decode cX8_measures 45 = .ok (.iconst 0, 1) := by decide +kernel
theorem dX8_measures_46 : decode cX8_measures 46 = .ok (.iaload, 1) := by decide +kernel
theorem dX8_measures_47 : decode cX8_measures 47 = .ok (.if_icmp .ge 178, 3) := by decide +kernel
theorem dX8_measures_50 : decode cX8_measures 50 = .ok (.iconst 0, 1) := by decide +kernel
theorem dX8_measures_51 : decode cX8_measures 51 = .ok (.istore_n 3, 1) := by decide +kernel
theorem dX8_measures_52 : decode cX8_measures 52 = .ok (.iload_n 3, 1) := by decide +kernel
theorem dX8_measures_53 : decode cX8_measures 53 = .ok (.aload_n 0, 1) := by decide +kernel
theorem dX8_measures_54 : decode cX8_measures 54 = .ok (.getfield 7, 3) := by decide +kernel
theorem dX8_measures_57 : decode cX8_measures 57 = .ok (.iconst 1, 1) := by decide +kernel
theorem dX8_measures_58 : decode cX8_measures 58 = .ok (.iaload, 1) := by decide +kernel
theorem dX8_measures_59 : decode cX8_measures 59 = .ok (.if_icmp .ge 160, 3) := by decide +kernel
theorem dX8_measures_62 : decode cX8_measures 62 = .ok (.aload_n 0, 1) := by decide +kernel
theorem dX8_measures_63 : decode cX8_measures 63 = .ok (.getfield 7, 3) := by decide +kernel
theorem dX8_measures_66 : decode cX8_measures 66 = .ok (.bipush 16, 2) := by decide +kernel
theorem dX8_measures_68 : decode cX8_measures 68 = .ok (.iload_n 3, 1) := by decide +kernel
theorem dX8_measures_69 : decode cX8_measures 69 = .ok (.iadd, 1) := by decide +kernel
theorem dX8_measures_70 : decode cX8_measures 70 = .ok (.iaload, 1) := by decide +kernel
theorem dX8_measures_71 : decode cX8_measures 71 = .ok (.istore 4, 2) := by decide +kernel
theorem dX8_measures_73 : decode cX8_measures 73 = .ok (.aload_n 0, 1) := by decide +kernel
theorem dX8_measures_74 : decode cX8_measures 74 = .ok (.getfield 7, 3) := by decide +kernel
theorem dX8_measures_77 : decode cX8_measures 77 = .ok (.bipush 28, 2) := by decide +kernel
theorem dX8_measures_79 : decode cX8_measures 79 = .ok (.iload_n 3, 1) := by decide +kernel
theorem dX8_measures_80 : decode cX8_measures 80 = .ok (.iadd, 1) := by decide +kernel
theorem dX8_measures_81 : decode cX8_measures 81 = .ok (.iaload, 1) := by decide +kernel
theorem dX8_measures_82 : decode cX8_measures 82 = .ok (.istore 5, 2) := by decide +kernel
theorem dX8_measures_84 : decode cX8_measures 84 = .ok (.aload_n 0, 1) := by decide +kernel
theorem dX8_measures_85 : decode cX8_measures 85 = .ok (.getfield 7, 3) := by decide +kernel
theorem dX8_measures_88 : decode cX8_measures 88 = .ok (.bipush 6, 2) := by decide +kernel
theorem dX8_measures_90 : decode cX8_measures 90 = .ok (.iaload, 1) := by decide +kernel
theorem dX8_measures_91 : decode cX8_measures 91 = .ok (.iload_n 3, 1) := by decide +kernel
theorem dX8_measures_92 : decode cX8_measures 92 = .ok (.invokestatic 94, 3) := by decide +kernel
theorem dX8_measures_95 : decode cX8_measures 95 = .ok (.ifCond .eq 8, 3) := by decide +kernel
theorem dX8_measures_98 : decode cX8_measures 98 = .ok (.ldc 97, 2) := by decide +kernel
theorem dX8_measures_100 : decode cX8_measures 100 = .ok (.goto 17, 3) := by decide +kernel
theorem dX8_measures_103 : decode cX8_measures 103 = .ok (.bipush 16, 2) := by decide +kernel
theorem dX8_measures_105 : decode cX8_measures 105 = .ok (.aload_n 0, 1) := by decide +kernel
theorem dX8_measures_106 : decode cX8_measures 106 = .ok (.getfield 7, 3) := by decide +kernel
theorem dX8_measures_109 : decode cX8_measures 109 = .ok (.bipush 40, 2) := by decide +kernel
theorem dX8_measures_111 : decode cX8_measures 111 = .ok (.iload_n 3, 1) := by decide +kernel
theorem dX8_measures_112 : decode cX8_measures 112 = .ok (.iadd, 1) := by decide +kernel
theorem dX8_measures_113 : decode cX8_measures 113 = .ok (.iaload, 1) := by decide +kernel
theorem dX8_measures_114 : decode cX8_measures 114 = .ok (.imul, 1) := by decide +kernel
theorem dX8_measures_115 : decode cX8_measures 115 = .ok (.iconst 1, 1) := by decide +kernel
theorem dX8_measures_116 : decode cX8_measures 116 = .ok (.iadd, 1) := by decide +kernel
theorem dX8_measures_117 : decode cX8_measures 117 = .ok (.istore 6, 2) := by decide +kernel
theorem dX8_measures_119 : decode cX8_measures 119 = .ok (.aload_n 0, 1) := by decide +kernel
theorem dX8_measures_120 : decode cX8_measures 120 = .ok (.getfield 33, 3) := by decide +kernel
theorem dX8_measures_123 : decode cX8_measures 123 = .ok (.iload 4, 2) := by decide +kernel
theorem dX8_measures_125 : decode cX8_measures 125 = .ok (.aload_n 0, 1) := by decide +kernel
theorem dX8_measures_126 : decode cX8_measures 126 = .ok (.getfield 33, 3) := by decide +kernel
theorem dX8_measures_129 : decode cX8_measures 129 = .ok (.iload 5, 2) := by decide +kernel
theorem dX8_measures_131 : decode cX8_measures 131 = .ok (.iaload, 1) := by decide +kernel
theorem dX8_measures_132 : decode cX8_measures 132 = .ok (.iload 6, 2) := by decide +kernel
theorem dX8_measures_134 : decode cX8_measures 134 = .ok (.iadd, 1) := by decide +kernel
theorem dX8_measures_135 : decode cX8_measures 135 = .ok (.aload_n 0, 1) := by decide +kernel
theorem dX8_measures_136 : decode cX8_measures 136 = .ok (.getfield 33, 3) := by decide +kernel
theorem dX8_measures_139 : decode cX8_measures 139 = .ok (.iload 4, 2) := by decide +kernel
theorem dX8_measures_141 : decode cX8_measures 141 = .ok (.iaload, 1) := by decide +kernel
theorem dX8_measures_142 : decode cX8_measures 142 = .ok (.if_icmp .ge 16, 3) := by decide +kernel
theorem dX8_measures_145 : decode cX8_measures 145 = .ok (.aload_n 0, 1) := by decide +kernel
theorem dX8_measures_146 : decode cX8_measures 146 = .ok (.getfield 33, 3) := by decide +kernel
theorem dX8_measures_149 : decode cX8_measures 149 = .ok (.iload 5, 2) := by decide +kernel
theorem dX8_measures_151 : decode cX8_measures 151 = .ok (.iaload, 1) := by decide +kernel
theorem dX8_measures_152 : decode cX8_measures 152 = .ok (.iload 6, 2) := by decide +kernel
theorem dX8_measures_154 : decode cX8_measures 154 = .ok (.iadd, 1) := by decide +kernel
theorem dX8_measures_155 : decode cX8_measures 155 = .ok (.goto 10, 3) := by decide +kernel
theorem dX8_measures_158 : decode cX8_measures 158 = .ok (.aload_n 0, 1) := by decide +kernel
theorem dX8_measures_159 : decode cX8_measures 159 = .ok (.getfield 33, 3) := by decide +kernel
theorem dX8_measures_162 : decode cX8_measures 162 = .ok (.iload 4, 2) := by decide +kernel
theorem dX8_measures_164 : decode cX8_measures 164 = .ok (.iaload, 1) := by decide +kernel
theorem dX8_measures_165 : decode cX8_measures 165 = .ok (.iastore, 1) := by decide +kernel
theorem dX8_measures_166 : decode cX8_measures 166 = .ok (.aload_n 0, 1) := by decide +kernel
theorem dX8_measures_167 : decode cX8_measures 167 = .ok (.getfield 33, 3) := by decide +kernel
theorem dX8_measures_170 : decode cX8_measures 170 = .ok (.iload 5, 2) := by decide +kernel
theorem dX8_measures_172 : decode cX8_measures 172 = .ok (.aload_n 0, 1) := by decide +kernel
theorem dX8_measures_173 : decode cX8_measures 173 = .ok (.getfield 33, 3) := by decide +kernel
theorem dX8_measures_176 : decode cX8_measures 176 = .ok (.iload 4, 2) := by decide +kernel
theorem dX8_measures_178 : decode cX8_measures 178 = .ok (.iaload, 1) := by decide +kernel
theorem dX8_measures_179 : decode cX8_measures 179 = .ok (.iload 6, 2) := by decide +kernel
theorem dX8_measures_181 : decode cX8_measures 181 = .ok (.iadd, 1) := by decide +kernel
theorem dX8_measures_182 : decode cX8_measures 182 = .ok (.aload_n 0, 1) := by decide +kernel
theorem dX8_measures_183 : decode cX8_measures 183 = .ok (.getfield 33, 3) := by decide +kernel
theorem dX8_measures_186 : decode cX8_measures 186 = .ok (.iload 5, 2) := by decide +kernel
theorem dX8_measures_188 : decode cX8_measures 188 = .ok (.iaload, 1) := by decide +kernel
theorem dX8_measures_189 : decode cX8_measures 189 = .ok (.if_icmp .ge 16, 3) := by decide +kernel
theorem dX8_measures_192 : decode cX8_measures 192 = .ok (.aload_n 0, 1) := by decide +kernel
theorem dX8_measures_193 : decode cX8_measures 193 = .ok (.getfield 33, 3) := by decide +kernel
theorem dX8_measures_196 : decode cX8_measures 196 = .ok (.iload 4, 2) := by decide +kernel
theorem dX8_measures_198 : decode cX8_measures 198 = .ok (.iaload, 1) := by decide +kernel
theorem dX8_measures_199 : decode cX8_measures 199 = .ok (.iload 6, 2) := by decide +kernel
theorem dX8_measures_201 : decode cX8_measures 201 = .ok (.iadd, 1) := by decide +kernel
theorem dX8_measures_202 : decode cX8_measures 202 = .ok (.goto 10, 3) := by decide +kernel
theorem dX8_measures_205 : decode cX8_measures 205 = .ok (.aload_n 0, 1) := by decide +kernel
theorem dX8_measures_206 : decode cX8_measures 206 = .ok (.getfield 33, 3) := by decide +kernel
theorem dX8_measures_209 : decode cX8_measures 209 = .ok (.iload 5, 2) := by decide +kernel
theorem dX8_measures_211 : decode cX8_measures 211 = .ok (.iaload, 1) := by decide +kernel
theorem dX8_measures_212 : decode cX8_measures 212 = .ok (.iastore, 1) := by decide +kernel
theorem dX8_measures_213 : decode cX8_measures 213 = .ok (.iinc 3 1, 3) := by decide +kernel
theorem dX8_measures_216 : decode cX8_measures 216 = .ok (.goto (-164), 3) := by decide +kernel
theorem dX8_measures_219 : decode cX8_measures 219 = .ok (.iinc 2 1, 3) := by decide +kernel
theorem dX8_measures_222 : decode cX8_measures 222 = .ok (.goto (-182), 3) := by decide +kernel
theorem dX8_measures_225 : decode cX8_measures 225 = .ok (.return_, 1) := by decide +kernel
theorem dX8_nextLink_0 : decode cX8_nextLink 0 = .ok (.bipush (-9), 2) := by decide +kernel
theorem dX8_nextLink_2 : decode cX8_nextLink 2 = .ok (.istore_n 2, 1) := by decide +kernel
theorem dX8_nextLink_3 : decode cX8_nextLink 3 = .ok (.bipush 7, 2) := by decide +kernel
theorem dX8_nextLink_5 : decode cX8_nextLink 5 = .ok (.istore_n 3, 1) := by decide +kernel
theorem dX8_nextLink_6 : decode cX8_nextLink 6 = .ok (.iconst 0, 1) := by decide +kernel
theorem dX8_nextLink_7 : decode cX8_nextLink 7 = .ok (.istore 4, 2) := by decide +kernel
theorem dX8_nextLink_9 : decode cX8_nextLink 9 = .ok (.iload 4, 2) := by decide +kernel
theorem dX8_nextLink_11 : decode cX8_nextLink 11 = .ok (.aload_n 0, 1) := by decide +kernel
theorem dX8_nextLink_12 : decode cX8_nextLink 12 = .ok (.getfield 7, 3) := by decide +kernel
theorem dX8_nextLink_15 : decode cX8_nextLink 15 = .ok (.iconst 1, 1) := by decide +kernel
theorem dX8_nextLink_16 : decode cX8_nextLink 16 = .ok (.iaload, 1) := by decide +kernel
theorem dX8_nextLink_17 : decode cX8_nextLink 17 = .ok (.if_icmp .ge 84, 3) := by decide +kernel
theorem dX8_nextLink_20 : decode cX8_nextLink 20 = .ok (.aload_n 0, 1) := by decide +kernel
theorem dX8_nextLink_21 : decode cX8_nextLink 21 = .ok (.iload 4, 2) := by decide +kernel
theorem dX8_nextLink_23 : decode cX8_nextLink 23 = .ok (.iload_n 1, 1) := by decide +kernel
theorem dX8_nextLink_24 : decode cX8_nextLink 24 = .ok (.invokevirtual 98, 3) := by decide +kernel
theorem dX8_nextLink_27 : decode cX8_nextLink 27 = .ok (.istore 5, 2) := by decide +kernel
theorem dX8_nextLink_29 : decode cX8_nextLink 29 = .ok (.iload 5, 2) := by decide +kernel
theorem dX8_nextLink_31 : decode cX8_nextLink 31 = .ok (.bipush (-9), 2) := by decide +kernel
theorem dX8_nextLink_33 : decode cX8_nextLink 33 = .ok (.if_icmp .eq 62, 3) := by decide +kernel
theorem dX8_nextLink_36 : decode cX8_nextLink 36 = .ok (.aload_n 0, 1) := by decide +kernel
theorem dX8_nextLink_37 : decode cX8_nextLink 37 = .ok (.getfield 7, 3) := by decide +kernel
theorem dX8_nextLink_40 : decode cX8_nextLink 40 = .ok (.bipush 6, 2) := by decide +kernel
theorem dX8_nextLink_42 : decode cX8_nextLink 42 = .ok (.iaload, 1) := by decide +kernel
theorem dX8_nextLink_43 : decode cX8_nextLink 43 = .ok (.iload 4, 2) := by decide +kernel
theorem dX8_nextLink_45 : decode cX8_nextLink 45 = .ok (.invokestatic 94, 3) := by decide +kernel
theorem dX8_nextLink_48 : decode cX8_nextLink 48 = .ok (.ifCond .ne 47, 3) := by decide +kernel
theorem dX8_nextLink_51 : decode cX8_nextLink 51 = .ok (.aload_n 0, 1) := by decide +kernel
theorem dX8_nextLink_52 : decode cX8_nextLink 52 = .ok (.getfield 33, 3) := by decide +kernel
theorem dX8_nextLink_55 : decode cX8_nextLink 55 = .ok (.iload 5, 2) := by decide +kernel
theorem dX8_nextLink_57 : decode cX8_nextLink 57 = .ok (.iaload, 1) := by decide +kernel
theorem dX8_nextLink_58 : decode cX8_nextLink 58 = .ok (.bipush 16, 2) := by decide +kernel
theorem dX8_nextLink_60 : decode cX8_nextLink 60 = .ok (.aload_n 0, 1) := by decide +kernel
theorem dX8_nextLink_61 : decode cX8_nextLink 61 = .ok (.getfield 7, 3) := by decide +kernel
theorem dX8_nextLink_64 : decode cX8_nextLink 64 = .ok (.bipush 40, 2) := by decide +kernel
theorem dX8_nextLink_66 : decode cX8_nextLink 66 = .ok (.iload 4, 2) := by decide +kernel
theorem dX8_nextLink_68 : decode cX8_nextLink 68 = .ok (.iadd, 1) := by decide +kernel
theorem dX8_nextLink_69 : decode cX8_nextLink 69 = .ok (.iaload, 1) := by decide +kernel
theorem dX8_nextLink_70 : decode cX8_nextLink 70 = .ok (.imul, 1) := by decide +kernel
theorem dX8_nextLink_71 : decode cX8_nextLink 71 = .ok (.iadd, 1) := by decide +kernel
theorem dX8_nextLink_72 : decode cX8_nextLink 72 = .ok (.iconst 1, 1) := by decide +kernel
theorem dX8_nextLink_73 : decode cX8_nextLink 73 = .ok (.iadd, 1) := by decide +kernel
theorem dX8_nextLink_74 : decode cX8_nextLink 74 = .ok (.aload_n 0, 1) := by decide +kernel
theorem dX8_nextLink_75 : decode cX8_nextLink 75 = .ok (.getfield 33, 3) := by decide +kernel
theorem dX8_nextLink_78 : decode cX8_nextLink 78 = .ok (.iload_n 1, 1) := by decide +kernel
theorem dX8_nextLink_79 : decode cX8_nextLink 79 = .ok (.iaload, 1) := by decide +kernel
theorem dX8_nextLink_80 : decode cX8_nextLink 80 = .ok (.if_icmp .ne 15, 3) := by decide +kernel
theorem dX8_nextLink_83 : decode cX8_nextLink 83 = .ok (.iload 5, 2) := by decide +kernel
theorem dX8_nextLink_85 : decode cX8_nextLink 85 = .ok (.iload_n 3, 1) := by decide +kernel
theorem dX8_nextLink_86 : decode cX8_nextLink 86 = .ok (.if_icmp .ge 9, 3) := by decide +kernel
theorem dX8_nextLink_89 : decode cX8_nextLink 89 = .ok (.iload 4, 2) := by decide +kernel
theorem dX8_nextLink_91 : decode cX8_nextLink 91 = .ok (.istore_n 2, 1) := by decide +kernel
theorem dX8_nextLink_92 : decode cX8_nextLink 92 = .ok (.iload 5, 2) := by decide +kernel
theorem dX8_nextLink_94 : decode cX8_nextLink 94 = .ok (.istore_n 3, 1) := by decide +kernel
theorem dX8_nextLink_95 : decode cX8_nextLink 95 = .ok (.iinc 4 1, 3) := by decide +kernel
theorem dX8_nextLink_98 : decode cX8_nextLink 98 = .ok (.goto (-89), 3) := by decide +kernel
theorem dX8_nextLink_101 : decode cX8_nextLink 101 = .ok (.iload_n 2, 1) := by decide +kernel
theorem dX8_nextLink_102 : decode cX8_nextLink 102 = .ok (.ireturn, 1) := by decide +kernel
theorem dX8_wayOf_0 : decode cX8_wayOf 0 = .ok (.iconst 0, 1) := by decide +kernel
theorem dX8_wayOf_1 : decode cX8_wayOf 1 = .ok (.istore_n 2, 1) := by decide +kernel
theorem dX8_wayOf_2 : decode cX8_wayOf 2 = .ok (.iload_n 1, 1) := by decide +kernel
theorem dX8_wayOf_3 : decode cX8_wayOf 3 = .ok (.istore_n 3, 1) := by decide +kernel
theorem dX8_wayOf_4 : decode cX8_wayOf 4 = .ok (.aload_n 0, 1) := by decide +kernel
theorem dX8_wayOf_5 : decode cX8_wayOf 5 = .ok (.getfield 33, 3) := by decide +kernel
theorem dX8_wayOf_8 : decode cX8_wayOf 8 = .ok (.iload_n 3, 1) := by decide +kernel
theorem dX8_wayOf_9 : decode cX8_wayOf 9 = .ok (.iaload, 1) := by decide +kernel
theorem dX8_wayOf_10 : decode cX8_wayOf 10 = .ok (.ifCond .le 28, 3) := by decide +kernel
theorem dX8_wayOf_13 : decode cX8_wayOf 13 = .ok (.aload_n 0, 1) := by decide +kernel
theorem dX8_wayOf_14 : decode cX8_wayOf 14 = .ok (.iload_n 3, 1) := by decide +kernel
theorem dX8_wayOf_15 : decode cX8_wayOf 15 = .ok (.invokevirtual 101, 3) := by decide +kernel
theorem dX8_wayOf_18 : decode cX8_wayOf 18 = .ok (.istore 4, 2) := by decide +kernel
theorem dX8_wayOf_20 : decode cX8_wayOf 20 = .ok (.iload_n 2, 1) := by decide +kernel
theorem dX8_wayOf_21 : decode cX8_wayOf 21 = .ok (.iconst 1, 1) := by decide +kernel
theorem dX8_wayOf_22 : decode cX8_wayOf 22 = .ok (.iload 4, 2) := by decide +kernel
theorem dX8_wayOf_24 : decode cX8_wayOf 24 = .ok (.ishl, 1) := by decide +kernel
theorem dX8_wayOf_25 : decode cX8_wayOf 25 = .ok (.ior, 1) := by decide +kernel
theorem dX8_wayOf_26 : decode cX8_wayOf 26 = .ok (.istore_n 2, 1) := by decide +kernel
theorem dX8_wayOf_27 : decode cX8_wayOf 27 = .ok (.aload_n 0, 1) := by decide +kernel
theorem dX8_wayOf_28 : decode cX8_wayOf 28 = .ok (.iload 4, 2) := by decide +kernel
theorem dX8_wayOf_30 : decode cX8_wayOf 30 = .ok (.iload_n 3, 1) := by decide +kernel
theorem dX8_wayOf_31 : decode cX8_wayOf 31 = .ok (.invokevirtual 98, 3) := by decide +kernel
theorem dX8_wayOf_34 : decode cX8_wayOf 34 = .ok (.istore_n 3, 1) := by decide +kernel
theorem dX8_wayOf_35 : decode cX8_wayOf 35 = .ok (.goto (-31), 3) := by decide +kernel
theorem dX8_wayOf_38 : decode cX8_wayOf 38 = .ok (.iload_n 2, 1) := by decide +kernel
theorem dX8_wayOf_39 : decode cX8_wayOf 39 = .ok (.ireturn, 1) := by decide +kernel
theorem dX8_pruned_0 : decode cX8_pruned 0 = .ok (.iload_n 1, 1) := by decide +kernel
theorem dX8_pruned_1 : decode cX8_pruned 1 = .ok (.istore_n 2, 1) := by decide +kernel
theorem dX8_pruned_2 : decode cX8_pruned 2 = .ok (.iconst 1, 1) := by decide +kernel
theorem dX8_pruned_3 : decode cX8_pruned 3 = .ok (.istore_n 3, 1) := by decide +kernel
theorem dX8_pruned_4 : decode cX8_pruned 4 = .ok (.iload_n 3, 1) := by decide +kernel
theorem dX8_pruned_5 : decode cX8_pruned 5 = .ok (.ifCond .eq 155, 3) := by decide +kernel
theorem dX8_pruned_8 : decode cX8_pruned 8 = .ok (.iconst 0, 1) := by decide +kernel
theorem dX8_pruned_9 : decode cX8_pruned 9 = .ok (.istore_n 3, 1) := by decide +kernel
theorem dX8_pruned_10 : decode cX8_pruned 10 = .ok (.iconst 0, 1) := by decide +kernel
theorem dX8_pruned_11 : decode cX8_pruned 11 = .ok (.istore 4, 2) := by decide +kernel
theorem dX8_pruned_13 : decode cX8_pruned 13 = .ok (.iload 4, 2) := by decide +kernel
theorem dX8_pruned_15 : decode cX8_pruned 15 = .ok (.aload_n 0, 1) := by decide +kernel
theorem dX8_pruned_16 : decode cX8_pruned 16 = .ok (.getfield 7, 3) := by decide +kernel
theorem dX8_pruned_19 : decode cX8_pruned 19 = .ok (.iconst 0, 1) := by decide +kernel
theorem dX8_pruned_20 : decode cX8_pruned 20 = .ok (.iaload, 1) := by decide +kernel
theorem dX8_pruned_21 : decode cX8_pruned 21 = .ok (.if_icmp .ge 136, 3) := by decide +kernel
theorem dX8_pruned_24 : decode cX8_pruned 24 = .ok (.iconst 0, 1) := by decide +kernel
theorem dX8_pruned_25 : decode cX8_pruned 25 = .ok (.istore 5, 2) := by decide +kernel
theorem dX8_pruned_27 : decode cX8_pruned 27 = .ok (.bipush (-9), 2) := by decide +kernel
theorem dX8_pruned_29 : decode cX8_pruned 29 = .ok (.istore 6, 2) := by decide +kernel
theorem dX8_pruned_31 : decode cX8_pruned 31 = .ok (.iconst 0, 1) := by decide +kernel
theorem dX8_pruned_32 : decode cX8_pruned 32 = .ok (.istore 7, 2) := by decide +kernel
theorem dX8_pruned_34 : decode cX8_pruned 34 = .ok (.iload 7, 2) := by decide +kernel
theorem dX8_pruned_36 : decode cX8_pruned 36 = .ok (.aload_n 0, 1) := by decide +kernel
theorem dX8_pruned_37 : decode cX8_pruned 37 = .ok (.getfield 7, 3) := by decide +kernel
theorem dX8_pruned_40 : decode cX8_pruned 40 = .ok (.iconst 1, 1) := by decide +kernel
theorem dX8_pruned_41 : decode cX8_pruned 41 = .ok (.iaload, 1) := by decide +kernel
theorem dX8_pruned_42 : decode cX8_pruned 42 = .ok (.if_icmp .ge 67, 3) := by decide +kernel
theorem dX8_pruned_45 : decode cX8_pruned 45 = .ok (.iload_n 2, 1) := by decide +kernel
theorem dX8_pruned_46 : decode cX8_pruned 46 = .ok (.iload 7, 2) := by decide +kernel
theorem dX8_pruned_48 : decode cX8_pruned 48 = .ok (.invokestatic 94, 3) := by decide +kernel
theorem dX8_pruned_51 : decode cX8_pruned 51 = .ok (.ifCond .eq 20, 3) := by decide +kernel
theorem dX8_pruned_54 : decode cX8_pruned 54 = .ok (.aload_n 0, 1) := by decide +kernel
theorem dX8_pruned_55 : decode cX8_pruned 55 = .ok (.iload 7, 2) := by decide +kernel
theorem dX8_pruned_57 : decode cX8_pruned 57 = .ok (.iload 4, 2) := by decide +kernel
theorem dX8_pruned_59 : decode cX8_pruned 59 = .ok (.invokevirtual 98, 3) := by decide +kernel
theorem dX8_pruned_62 : decode cX8_pruned 62 = .ok (.bipush (-9), 2) := by decide +kernel
theorem dX8_pruned_64 : decode cX8_pruned 64 = .ok (.if_icmp .eq 7, 3) := by decide +kernel
theorem dX8_pruned_67 : decode cX8_pruned 67 = .ok (.iconst 1, 1) := by decide +kernel
theorem dX8_pruned_68 : decode cX8_pruned 68 = .ok (.goto 4, 3) := by decide +kernel
theorem dX8_pruned_71 : decode cX8_pruned 71 = .ok (.iconst 0, 1) := by decide +kernel
theorem dX8_pruned_72 : decode cX8_pruned 72 = .ok (.istore 8, 2) := by decide +kernel
theorem dX8_pruned_74 : decode cX8_pruned 74 = .ok (.iload 5, 2) := by decide +kernel
theorem dX8_pruned_76 : decode cX8_pruned 76 = .ok (.iload 8, 2) := by decide +kernel
theorem dX8_pruned_78 : decode cX8_pruned 78 = .ok (.ifCond .eq 7, 3) := by decide +kernel
theorem dX8_pruned_81 : decode cX8_pruned 81 = .ok (.iconst 1, 1) := by decide +kernel
theorem dX8_pruned_82 : decode cX8_pruned 82 = .ok (.goto 4, 3) := by decide +kernel
theorem dX8_pruned_85 : decode cX8_pruned 85 = .ok (.iconst 0, 1) := by decide +kernel
theorem dX8_pruned_86 : decode cX8_pruned 86 = .ok (.iadd, 1) := by decide +kernel
theorem dX8_pruned_87 : decode cX8_pruned 87 = .ok (.istore 5, 2) := by decide +kernel
theorem dX8_pruned_89 : decode cX8_pruned 89 = .ok (.iload 8, 2) := by decide +kernel
theorem dX8_pruned_91 : decode cX8_pruned 91 = .ok (.ifCond .eq 8, 3) := by decide +kernel
theorem dX8_pruned_94 : decode cX8_pruned 94 = .ok (.iload 7, 2) := by decide +kernel
theorem dX8_pruned_96 : decode cX8_pruned 96 = .ok (.goto 5, 3) := by decide +kernel
theorem dX8_pruned_99 : decode cX8_pruned 99 = .ok (.iload 6, 2) := by decide +kernel
theorem dX8_pruned_101 : decode cX8_pruned 101 = .ok (.istore 6, 2) := by decide +kernel
theorem dX8_pruned_103 : decode cX8_pruned 103 = .ok (.iinc 7 1, 3) := by decide +kernel
theorem dX8_pruned_106 : decode cX8_pruned 106 = .ok (.goto (-72), 3) := by decide +kernel
theorem dX8_pruned_109 : decode cX8_pruned 109 = .ok (.iload 5, 2) := by decide +kernel
theorem dX8_pruned_111 : decode cX8_pruned 111 = .ok (.iconst 1, 1) := by decide +kernel
theorem dX8_pruned_112 : decode cX8_pruned 112 = .ok (.if_icmp .ne 39, 3) := by decide +kernel
theorem dX8_pruned_115 : decode cX8_pruned 115 = .ok (.iload 4, 2) := by decide +kernel
theorem dX8_pruned_117 : decode cX8_pruned 117 = .ok (.aload_n 0, 1) := by decide +kernel
theorem dX8_pruned_118 : decode cX8_pruned 118 = .ok (.getfield 7, 3) := by decide +kernel
theorem dX8_pruned_121 : decode cX8_pruned 121 = .ok (.iconst 2, 1) := by decide +kernel
theorem dX8_pruned_122 : decode cX8_pruned 122 = .ok (.iaload, 1) := by decide +kernel
theorem dX8_pruned_123 : decode cX8_pruned 123 = .ok (.if_icmp .eq 28, 3) := by decide +kernel
theorem dX8_pruned_126 : decode cX8_pruned 126 = .ok (.aload_n 0, 1) := by decide +kernel
theorem dX8_pruned_127 : decode cX8_pruned 127 = .ok (.getfield 7, 3) := by decide +kernel
theorem dX8_pruned_130 : decode cX8_pruned 130 = .ok (.iconst 4, 1) := by decide +kernel
theorem dX8_pruned_131 : decode cX8_pruned 131 = .ok (.iaload, 1) := by decide +kernel
theorem dX8_pruned_132 : decode cX8_pruned 132 = .ok (.iload 4, 2) := by decide +kernel
theorem dX8_pruned_134 : decode cX8_pruned 134 = .ok (.invokestatic 94, 3) := by decide +kernel
theorem dX8_pruned_137 : decode cX8_pruned 137 = .ok (.ifCond .ne 14, 3) := by decide +kernel
theorem dX8_pruned_140 : decode cX8_pruned 140 = .ok (.iload_n 2, 1) := by decide +kernel
theorem dX8_pruned_141 : decode cX8_pruned 141 = .ok (.iconst 1, 1) := by decide +kernel
theorem dX8_pruned_142 : decode cX8_pruned 142 = .ok (.iload 6, 2) := by decide +kernel
theorem dX8_pruned_144 : decode cX8_pruned 144 = .ok (.ishl, 1) := by decide +kernel
theorem dX8_pruned_145 : decode cX8_pruned 145 = .ok (.iconst (-1), 1) := by decide +kernel
theorem dX8_pruned_146 : decode cX8_pruned 146 = .ok (.ixor, 1) := by decide +kernel
theorem dX8_pruned_147 : decode cX8_pruned 147 = .ok (.iand, 1) := by decide +kernel
theorem dX8_pruned_148 : decode cX8_pruned 148 = .ok (.istore_n 2, 1) := by decide +kernel
theorem dX8_pruned_149 : decode cX8_pruned 149 = .ok (.iconst 1, 1) := by decide +kernel
theorem dX8_pruned_150 : decode cX8_pruned 150 = .ok (.istore_n 3, 1) := by decide +kernel
theorem dX8_pruned_151 : decode cX8_pruned 151 = .ok (.iinc 4 1, 3) := by decide +kernel
theorem dX8_pruned_154 : decode cX8_pruned 154 = .ok (.goto (-141), 3) := by decide +kernel
theorem dX8_pruned_157 : decode cX8_pruned 157 = .ok (.goto (-153), 3) := by decide +kernel
theorem dX8_pruned_160 : decode cX8_pruned 160 = .ok (.iload_n 2, 1) := by decide +kernel
theorem dX8_pruned_161 : decode cX8_pruned 161 = .ok (.ireturn, 1) := by decide +kernel
theorem dX8_anew_0 : decode cX8_anew 0 = .ok (.iconst 0, 1) := by decide +kernel
theorem dX8_anew_1 : decode cX8_anew 1 = .ok (.istore_n 1, 1) := by decide +kernel
theorem dX8_anew_2 : decode cX8_anew 2 = .ok (.aload_n 0, 1) := by decide +kernel
theorem dX8_anew_3 : decode cX8_anew 3 = .ok (.getfield 7, 3) := by decide +kernel
theorem dX8_anew_6 : decode cX8_anew 6 = .ok (.iconst 4, 1) := by decide +kernel
theorem dX8_anew_7 : decode cX8_anew 7 = .ok (.iaload, 1) := by decide +kernel
theorem dX8_anew_8 : decode cX8_anew 8 = .ok (.aload_n 0, 1) := by decide +kernel
theorem dX8_anew_9 : decode cX8_anew 9 = .ok (.iload_n 1, 1) := by decide +kernel
theorem dX8_anew_10 : decode cX8_anew 10 = .ok (.invokevirtual 104, 3) := by decide +kernel
theorem dX8_anew_13 : decode cX8_anew 13 = .ok (.iconst (-1), 1) := by decide +kernel
theorem dX8_anew_14 : decode cX8_anew 14 = .ok (.ixor, 1) := by decide +kernel
theorem dX8_anew_15 : decode cX8_anew 15 = .ok (.iand, 1) := by decide +kernel
theorem dX8_anew_16 : decode cX8_anew 16 = .ok (.istore_n 2, 1) := by decide +kernel
theorem dX8_anew_17 : decode cX8_anew 17 = .ok (.iload_n 2, 1) := by decide +kernel
theorem dX8_anew_18 : decode cX8_anew 18 = .ok (.ifCond .eq 105, 3) := by decide +kernel
theorem dX8_anew_21 : decode cX8_anew 21 = .ok (.aload_n 0, 1) := by decide +kernel
theorem dX8_anew_22 : decode cX8_anew 22 = .ok (.aload_n 0, 1) := by decide +kernel
theorem dX8_anew_23 : decode cX8_anew 23 = .ok (.iload_n 1, 1) := by decide +kernel
theorem dX8_anew_24 : decode cX8_anew 24 = .ok (.invokevirtual 104, 3) := by decide +kernel
theorem dX8_anew_27 : decode cX8_anew 27 = .ok (.invokevirtual 107, 3) := by decide +kernel
theorem dX8_anew_30 : decode cX8_anew 30 = .ok (.bipush (-9), 2) := by decide +kernel
theorem dX8_anew_32 : decode cX8_anew 32 = .ok (.istore_n 3, 1) := by decide +kernel
theorem dX8_anew_33 : decode cX8_anew 33 = .ok (.iconst 0, 1) := by decide +kernel
theorem dX8_anew_34 : decode cX8_anew 34 = .ok (.istore 4, 2) := by decide +kernel
theorem dX8_anew_36 : decode cX8_anew 36 = .ok (.iload 4, 2) := by decide +kernel
theorem dX8_anew_38 : decode cX8_anew 38 = .ok (.aload_n 0, 1) := by decide +kernel
theorem dX8_anew_39 : decode cX8_anew 39 = .ok (.getfield 7, 3) := by decide +kernel
theorem dX8_anew_42 : decode cX8_anew 42 = .ok (.iconst 0, 1) := by decide +kernel
theorem dX8_anew_43 : decode cX8_anew 43 = .ok (.iaload, 1) := by decide +kernel
theorem dX8_anew_44 : decode cX8_anew 44 = .ok (.if_icmp .ge 53, 3) := by decide +kernel
theorem dX8_anew_47 : decode cX8_anew 47 = .ok (.iload_n 2, 1) := by decide +kernel
theorem dX8_anew_48 : decode cX8_anew 48 = .ok (.iload 4, 2) := by decide +kernel
theorem dX8_anew_50 : decode cX8_anew 50 = .ok (.invokestatic 94, 3) := by decide +kernel
theorem dX8_anew_53 : decode cX8_anew 53 = .ok (.ifCond .eq 36, 3) := by decide +kernel
theorem dX8_anew_56 : decode cX8_anew 56 = .ok (.iload_n 3, 1) := by decide +kernel
theorem dX8_anew_57 : decode cX8_anew 57 = .ok (.bipush (-9), 2) := by decide +kernel
theorem dX8_anew_59 : decode cX8_anew 59 = .ok (.if_icmp .eq 25, 3) := by decide +kernel
theorem dX8_anew_62 : decode cX8_anew 62 = .ok (.aload_n 0, 1) := by decide +kernel
theorem dX8_anew_63 : decode cX8_anew 63 = .ok (.getfield 33, 3) := by decide +kernel
theorem dX8_anew_66 : decode cX8_anew 66 = .ok (.iload 4, 2) := by decide +kernel
theorem dX8_anew_68 : decode cX8_anew 68 = .ok (.iaload, 1) := by decide +kernel
theorem dX8_anew_69 : decode cX8_anew 69 = .ok (.bipush 16, 2) := by decide +kernel
theorem dX8_anew_71 : decode cX8_anew 71 = .ok (.idiv, 1) := by decide +kernel
theorem dX8_anew_72 : decode cX8_anew 72 = .ok (.aload_n 0, 1) := by decide +kernel
theorem dX8_anew_73 : decode cX8_anew 73 = .ok (.getfield 33, 3) := by decide +kernel
theorem dX8_anew_76 : decode cX8_anew 76 = .ok (.iload_n 3, 1) := by decide +kernel
theorem dX8_anew_77 : decode cX8_anew 77 = .ok (.iaload, 1) := by decide +kernel
theorem dX8_anew_78 : decode cX8_anew 78 = .ok (.bipush 16, 2) := by decide +kernel
theorem dX8_anew_80 : decode cX8_anew 80 = .ok (.idiv, 1) := by decide +kernel
theorem dX8_anew_81 : decode cX8_anew 81 = .ok (.if_icmp .ge 8, 3) := by decide +kernel
theorem dX8_anew_84 : decode cX8_anew 84 = .ok (.iload 4, 2) := by decide +kernel
theorem dX8_anew_86 : decode cX8_anew 86 = .ok (.goto 4, 3) := by decide +kernel
theorem dX8_anew_89 : decode cX8_anew 89 = .ok (.iload_n 3, 1) := by decide +kernel
theorem dX8_anew_90 : decode cX8_anew 90 = .ok (.istore_n 3, 1) := by decide +kernel
theorem dX8_anew_91 : decode cX8_anew 91 = .ok (.iinc 4 1, 3) := by decide +kernel
theorem dX8_anew_94 : decode cX8_anew 94 = .ok (.goto (-58), 3) := by decide +kernel
theorem dX8_anew_97 : decode cX8_anew 97 = .ok (.iload_n 1, 1) := by decide +kernel
theorem dX8_anew_98 : decode cX8_anew 98 = .ok (.aload_n 0, 1) := by decide +kernel
theorem dX8_anew_99 : decode cX8_anew 99 = .ok (.iload_n 3, 1) := by decide +kernel
theorem dX8_anew_100 : decode cX8_anew 100 = .ok (.invokevirtual 111, 3) := by decide +kernel
theorem dX8_anew_103 : decode cX8_anew 103 = .ok (.ior, 1) := by decide +kernel
theorem dX8_anew_104 : decode cX8_anew 104 = .ok (.istore_n 1, 1) := by decide +kernel
theorem dX8_anew_105 : decode cX8_anew 105 = .ok (.aload_n 0, 1) := by decide +kernel
theorem dX8_anew_106 : decode cX8_anew 106 = .ok (.getfield 7, 3) := by decide +kernel
theorem dX8_anew_109 : decode cX8_anew 109 = .ok (.iconst 4, 1) := by decide +kernel
theorem dX8_anew_110 : decode cX8_anew 110 = .ok (.iaload, 1) := by decide +kernel
theorem dX8_anew_111 : decode cX8_anew 111 = .ok (.aload_n 0, 1) := by decide +kernel
theorem dX8_anew_112 : decode cX8_anew 112 = .ok (.iload_n 1, 1) := by decide +kernel
theorem dX8_anew_113 : decode cX8_anew 113 = .ok (.invokevirtual 104, 3) := by decide +kernel
theorem dX8_anew_116 : decode cX8_anew 116 = .ok (.iconst (-1), 1) := by decide +kernel
theorem dX8_anew_117 : decode cX8_anew 117 = .ok (.ixor, 1) := by decide +kernel
theorem dX8_anew_118 : decode cX8_anew 118 = .ok (.iand, 1) := by decide +kernel
theorem dX8_anew_119 : decode cX8_anew 119 = .ok (.istore_n 2, 1) := by decide +kernel
theorem dX8_anew_120 : decode cX8_anew 120 = .ok (.goto (-103), 3) := by decide +kernel
theorem dX8_anew_123 : decode cX8_anew 123 = .ok (.iload_n 1, 1) := by decide +kernel
theorem dX8_anew_124 : decode cX8_anew 124 = .ok (.ireturn, 1) := by decide +kernel
theorem dX8_notes_0 : decode cX8_notes 0 = .ok (.aload_n 0, 1) := by decide +kernel
theorem dX8_notes_1 : decode cX8_notes 1 = .ok (.getfield 114, 3) := by decide +kernel
theorem dX8_notes_4 : decode cX8_notes 4 = .ok (.bipush 6, 2) := by decide +kernel
theorem dX8_notes_6 : decode cX8_notes 6 = .ok (.if_icmp .ne 43, 3) := by decide +kernel
theorem dX8_notes_9 : decode cX8_notes 9 = .ok (.iconst 0, 1) := by decide +kernel
theorem dX8_notes_10 : decode cX8_notes 10 = .ok (.istore_n 1, 1) := by decide +kernel
theorem dX8_notes_11 : decode cX8_notes 11 = .ok (.iload_n 1, 1) := by decide +kernel
theorem dX8_notes_12 : decode cX8_notes 12 = .ok (.sipush 260, 3) := by decide +kernel
theorem dX8_notes_15 : decode cX8_notes 15 = .ok (.if_icmp .ge 24, 3) := by decide +kernel
theorem dX8_notes_18 : decode cX8_notes 18 = .ok (.aload_n 0, 1) := by decide +kernel
theorem dX8_notes_19 : decode cX8_notes 19 = .ok (.getfield 16, 3) := by decide +kernel
theorem dX8_notes_22 : decode cX8_notes 22 = .ok (.iload_n 1, 1) := by decide +kernel
theorem dX8_notes_23 : decode cX8_notes 23 = .ok (.aload_n 0, 1) := by decide +kernel
theorem dX8_notes_24 : decode cX8_notes 24 = .ok (.getfield 16, 3) := by decide +kernel
theorem dX8_notes_27 : decode cX8_notes 27 = .ok (.iload_n 1, 1) := by decide +kernel
theorem dX8_notes_28 : decode cX8_notes 28 = .ok (.bipush 52, 2) := by decide +kernel
theorem dX8_notes_30 : decode cX8_notes 30 = .ok (.iadd, 1) := by decide +kernel
theorem dX8_notes_31 : decode cX8_notes 31 = .ok (.iaload, 1) := by decide +kernel
theorem dX8_notes_32 : decode cX8_notes 32 = .ok (.iastore, 1) := by decide +kernel
theorem dX8_notes_33 : decode cX8_notes 33 = .ok (.iinc 1 1, 3) := by decide +kernel
theorem dX8_notes_36 : decode cX8_notes 36 = .ok (.goto (-25), 3) := by decide +kernel
theorem dX8_notes_39 : decode cX8_notes 39 = .ok (.aload_n 0, 1) := by decide +kernel
theorem dX8_notes_40 : decode cX8_notes 40 = .ok (.dup, 1) := by decide +kernel
theorem dX8_notes_41 : decode cX8_notes 41 = .ok (.getfield 114, 3) := by decide +kernel
theorem dX8_notes_44 : decode cX8_notes 44 = .ok (.iconst 1, 1) := by decide +kernel
theorem dX8_notes_45 : decode cX8_notes 45 = .ok (.isub, 1) := by decide +kernel
theorem dX8_notes_46 : decode cX8_notes 46 = .ok (.putfield 114, 3) := by decide +kernel
theorem dX8_notes_49 : decode cX8_notes 49 = .ok (.iconst 0, 1) := by decide +kernel
theorem dX8_notes_50 : decode cX8_notes 50 = .ok (.istore_n 1, 1) := by decide +kernel
theorem dX8_notes_51 : decode cX8_notes 51 = .ok (.iload_n 1, 1) := by decide +kernel
theorem dX8_notes_52 : decode cX8_notes 52 = .ok (.bipush 52, 2) := by decide +kernel
theorem dX8_notes_54 : decode cX8_notes 54 = .ok (.if_icmp .ge 29, 3) := by decide +kernel
theorem dX8_notes_57 : decode cX8_notes 57 = .ok (.aload_n 0, 1) := by decide +kernel
theorem dX8_notes_58 : decode cX8_notes 58 = .ok (.getfield 16, 3) := by decide +kernel
theorem dX8_notes_61 : decode cX8_notes 61 = .ok (.bipush 52, 2) := by decide +kernel
theorem dX8_notes_63 : decode cX8_notes 63 = .ok (.aload_n 0, 1) := by decide +kernel
theorem dX8_notes_64 : decode cX8_notes 64 = .ok (.getfield 114, 3) := by decide +kernel
theorem dX8_notes_67 : decode cX8_notes 67 = .ok (.imul, 1) := by decide +kernel
theorem dX8_notes_68 : decode cX8_notes 68 = .ok (.iload_n 1, 1) := by decide +kernel
theorem dX8_notes_69 : decode cX8_notes 69 = .ok (.iadd, 1) := by decide +kernel
theorem dX8_notes_70 : decode cX8_notes 70 = .ok (.aload_n 0, 1) := by decide +kernel
theorem dX8_notes_71 : decode cX8_notes 71 = .ok (.getfield 7, 3) := by decide +kernel
theorem dX8_notes_74 : decode cX8_notes 74 = .ok (.iload_n 1, 1) := by decide +kernel
theorem dX8_notes_75 : decode cX8_notes 75 = .ok (.iaload, 1) := by decide +kernel
theorem dX8_notes_76 : decode cX8_notes 76 = .ok (.iastore, 1) := by decide +kernel
theorem dX8_notes_77 : decode cX8_notes 77 = .ok (.iinc 1 1, 3) := by decide +kernel
theorem dX8_notes_80 : decode cX8_notes 80 = .ok (.goto (-29), 3) := by decide +kernel
theorem dX8_notes_83 : decode cX8_notes 83 = .ok (.aload_n 0, 1) := by decide +kernel
theorem dX8_notes_84 : decode cX8_notes 84 = .ok (.dup, 1) := by decide +kernel
theorem dX8_notes_85 : decode cX8_notes 85 = .ok (.getfield 114, 3) := by decide +kernel
theorem dX8_notes_88 : decode cX8_notes 88 = .ok (.iconst 1, 1) := by decide +kernel
theorem dX8_notes_89 : decode cX8_notes 89 = .ok (.iadd, 1) := by decide +kernel
theorem dX8_notes_90 : decode cX8_notes 90 = .ok (.putfield 114, 3) := by decide +kernel
theorem dX8_notes_93 : decode cX8_notes 93 = .ok (.return_, 1) := by decide +kernel
theorem dX8_markOf_0 : decode cX8_markOf 0 = .ok (.bipush (-9), 2) := by decide +kernel
theorem dX8_markOf_2 : decode cX8_markOf 2 = .ok (.istore_n 2, 1) := by decide +kernel
theorem dX8_markOf_3 : decode cX8_markOf 3 = .ok (.iconst 0, 1) := by decide +kernel
theorem dX8_markOf_4 : decode cX8_markOf 4 = .ok (.istore_n 3, 1) := by decide +kernel
theorem dX8_markOf_5 : decode cX8_markOf 5 = .ok (.iload_n 3, 1) := by decide +kernel
theorem dX8_markOf_6 : decode cX8_markOf 6 = .ok (.aload_n 0, 1) := by decide +kernel
theorem dX8_markOf_7 : decode cX8_markOf 7 = .ok (.getfield 7, 3) := by decide +kernel
theorem dX8_markOf_10 : decode cX8_markOf 10 = .ok (.bipush 7, 2) := by decide +kernel
theorem dX8_markOf_12 : decode cX8_markOf 12 = .ok (.iaload, 1) := by decide +kernel
theorem dX8_markOf_13 : decode cX8_markOf 13 = .ok (.if_icmp .ge 28, 3) := by decide +kernel
theorem dX8_markOf_16 : decode cX8_markOf 16 = .ok (.aload_n 0, 1) := by decide +kernel
theorem dX8_markOf_17 : decode cX8_markOf 17 = .ok (.getfield 7, 3) := by decide +kernel
theorem dX8_markOf_20 : decode cX8_markOf 20 = .ok (.bipush 8, 2) := by decide +kernel
theorem dX8_markOf_22 : decode cX8_markOf 22 = .ok (.iload_n 3, 1) := by decide +kernel
theorem dX8_markOf_23 : decode cX8_markOf 23 = .ok (.iadd, 1) := by decide +kernel
theorem dX8_markOf_24 : decode cX8_markOf 24 = .ok (.iaload, 1) := by decide +kernel
theorem dX8_markOf_25 : decode cX8_markOf 25 = .ok (.iload_n 1, 1) := by decide +kernel
theorem dX8_markOf_26 : decode cX8_markOf 26 = .ok (.if_icmp .ne 7, 3) := by decide +kernel
theorem dX8_markOf_29 : decode cX8_markOf 29 = .ok (.iload_n 3, 1) := by decide +kernel
theorem dX8_markOf_30 : decode cX8_markOf 30 = .ok (.goto 4, 3) := by decide +kernel
theorem dX8_markOf_33 : decode cX8_markOf 33 = .ok (.iload_n 2, 1) := by decide +kernel
theorem dX8_markOf_34 : decode cX8_markOf 34 = .ok (.istore_n 2, 1) := by decide +kernel
theorem dX8_markOf_35 : decode cX8_markOf 35 = .ok (.iinc 3 1, 3) := by decide +kernel
theorem dX8_markOf_38 : decode cX8_markOf 38 = .ok (.goto (-33), 3) := by decide +kernel
theorem dX8_markOf_41 : decode cX8_markOf 41 = .ok (.iload_n 2, 1) := by decide +kernel
theorem dX8_markOf_42 : decode cX8_markOf 42 = .ok (.ireturn, 1) := by decide +kernel
theorem dX8_bares_0 : decode cX8_bares 0 = .ok (.iconst 0, 1) := by decide +kernel
theorem dX8_bares_1 : decode cX8_bares 1 = .ok (.istore_n 1, 1) := by decide +kernel
theorem dX8_bares_2 : decode cX8_bares 2 = .ok (.iload_n 1, 1) := by decide +kernel
theorem dX8_bares_3 : decode cX8_bares 3 = .ok (.bipush 7, 2) := by decide +kernel
theorem dX8_bares_5 : decode cX8_bares 5 = .ok (.if_icmp .ge 19, 3) := by decide +kernel
theorem dX8_bares_8 : decode cX8_bares 8 = .ok (.aload_n 0, 1) := by decide +kernel
theorem dX8_bares_9 : decode cX8_bares 9 = .ok (.getfield 7, 3) := by decide +kernel
theorem dX8_bares_12 : decode cX8_bares 12 = .ok (.bipush 8, 2) := by decide +kernel
theorem dX8_bares_14 : decode cX8_bares 14 = .ok (.iload_n 1, 1) := by decide +kernel
theorem dX8_bares_15 : decode cX8_bares 15 = .ok (.iadd, 1) := by decide +kernel
theorem dX8_bares_16 : decode cX8_bares 16 = .ok (.iconst 0, 1) := by decide +kernel
theorem dX8_bares_17 : decode cX8_bares 17 = .ok (.iastore, 1) := by decide +kernel
theorem dX8_bares_18 : decode cX8_bares 18 = .ok (.iinc 1 1, 3) := by decide +kernel
theorem dX8_bares_21 : decode cX8_bares 21 = .ok (.goto (-19), 3) := by decide +kernel
theorem dX8_bares_24 : decode cX8_bares 24 = .ok (.aload_n 0, 1) := by decide +kernel
theorem dX8_bares_25 : decode cX8_bares 25 = .ok (.getfield 7, 3) := by decide +kernel
theorem dX8_bares_28 : decode cX8_bares 28 = .ok (.bipush 7, 2) := by decide +kernel
theorem dX8_bares_30 : decode cX8_bares 30 = .ok (.iconst 0, 1) := by decide +kernel
theorem dX8_bares_31 : decode cX8_bares 31 = .ok (.iastore, 1) := by decide +kernel
theorem dX8_bares_32 : decode cX8_bares 32 = .ok (.return_, 1) := by decide +kernel
theorem dX8_marks_0 : decode cX8_marks 0 = .ok (.aload_n 0, 1) := by decide +kernel
theorem dX8_marks_1 : decode cX8_marks 1 = .ok (.iload_n 1, 1) := by decide +kernel
theorem dX8_marks_2 : decode cX8_marks 2 = .ok (.invokevirtual 117, 3) := by decide +kernel
theorem dX8_marks_5 : decode cX8_marks 5 = .ok (.istore_n 2, 1) := by decide +kernel
theorem dX8_marks_6 : decode cX8_marks 6 = .ok (.iload_n 2, 1) := by decide +kernel
theorem dX8_marks_7 : decode cX8_marks 7 = .ok (.bipush (-9), 2) := by decide +kernel
theorem dX8_marks_9 : decode cX8_marks 9 = .ok (.if_icmp .ne 33, 3) := by decide +kernel
theorem dX8_marks_12 : decode cX8_marks 12 = .ok (.aload_n 0, 1) := by decide +kernel
theorem dX8_marks_13 : decode cX8_marks 13 = .ok (.getfield 7, 3) := by decide +kernel
theorem dX8_marks_16 : decode cX8_marks 16 = .ok (.bipush 8, 2) := by decide +kernel
theorem dX8_marks_18 : decode cX8_marks 18 = .ok (.aload_n 0, 1) := by decide +kernel
theorem dX8_marks_19 : decode cX8_marks 19 = .ok (.getfield 7, 3) := by decide +kernel
theorem dX8_marks_22 : decode cX8_marks 22 = .ok (.bipush 7, 2) := by decide +kernel
theorem dX8_marks_24 : decode cX8_marks 24 = .ok (.iaload, 1) := by decide +kernel
theorem dX8_marks_25 : decode cX8_marks 25 = .ok (.iadd, 1) := by decide +kernel
theorem dX8_marks_26 : decode cX8_marks 26 = .ok (.iload_n 1, 1) := by decide +kernel
theorem dX8_marks_27 : decode cX8_marks 27 = .ok (.iastore, 1) := by decide +kernel
theorem dX8_marks_28 : decode cX8_marks 28 = .ok (.aload_n 0, 1) := by decide +kernel
theorem dX8_marks_29 : decode cX8_marks 29 = .ok (.getfield 7, 3) := by decide +kernel
theorem dX8_marks_32 : decode cX8_marks 32 = .ok (.bipush 7, 2) := by decide +kernel
theorem dX8_marks_34 : decode cX8_marks 34 = .ok (.dup2, 1) := by decide +kernel
theorem dX8_marks_35 : decode cX8_marks 35 = .ok (.iaload, 1) := by decide +kernel
theorem dX8_marks_36 : decode cX8_marks 36 = .ok (.iconst 1, 1) := by decide +kernel
theorem dX8_marks_37 : decode cX8_marks 37 = .ok (.iadd, 1) := by decide +kernel
theorem dX8_marks_38 : decode cX8_marks 38 = .ok (.iastore, 1) := by decide +kernel
theorem dX8_marks_39 : decode cX8_marks 39 = .ok (.goto 71, 3) := by decide +kernel
theorem dX8_marks_42 : decode cX8_marks 42 = .ok (.iload_n 2, 1) := by decide +kernel
theorem dX8_marks_43 : decode cX8_marks 43 = .ok (.istore_n 3, 1) := by decide +kernel
theorem dX8_marks_44 : decode cX8_marks 44 = .ok (.iload_n 3, 1) := by decide +kernel
theorem dX8_marks_45 : decode cX8_marks 45 = .ok (.iconst 1, 1) := by decide +kernel
theorem dX8_marks_46 : decode cX8_marks 46 = .ok (.iadd, 1) := by decide +kernel
theorem dX8_marks_47 : decode cX8_marks 47 = .ok (.aload_n 0, 1) := by decide +kernel
theorem dX8_marks_48 : decode cX8_marks 48 = .ok (.getfield 7, 3) := by decide +kernel
theorem dX8_marks_51 : decode cX8_marks 51 = .ok (.bipush 7, 2) := by decide +kernel
theorem dX8_marks_53 : decode cX8_marks 53 = .ok (.iaload, 1) := by decide +kernel
theorem dX8_marks_54 : decode cX8_marks 54 = .ok (.if_icmp .ge 29, 3) := by decide +kernel
theorem dX8_marks_57 : decode cX8_marks 57 = .ok (.aload_n 0, 1) := by decide +kernel
theorem dX8_marks_58 : decode cX8_marks 58 = .ok (.getfield 7, 3) := by decide +kernel
theorem dX8_marks_61 : decode cX8_marks 61 = .ok (.bipush 8, 2) := by decide +kernel
theorem dX8_marks_63 : decode cX8_marks 63 = .ok (.iload_n 3, 1) := by decide +kernel
theorem dX8_marks_64 : decode cX8_marks 64 = .ok (.iadd, 1) := by decide +kernel
theorem dX8_marks_65 : decode cX8_marks 65 = .ok (.aload_n 0, 1) := by decide +kernel
theorem dX8_marks_66 : decode cX8_marks 66 = .ok (.getfield 7, 3) := by decide +kernel
theorem dX8_marks_69 : decode cX8_marks 69 = .ok (.bipush 8, 2) := by decide +kernel
theorem dX8_marks_71 : decode cX8_marks 71 = .ok (.iload_n 3, 1) := by decide +kernel
theorem dX8_marks_72 : decode cX8_marks 72 = .ok (.iadd, 1) := by decide +kernel
theorem dX8_marks_73 : decode cX8_marks 73 = .ok (.iconst 1, 1) := by decide +kernel
theorem dX8_marks_74 : decode cX8_marks 74 = .ok (.iadd, 1) := by decide +kernel
theorem dX8_marks_75 : decode cX8_marks 75 = .ok (.iaload, 1) := by decide +kernel
theorem dX8_marks_76 : decode cX8_marks 76 = .ok (.iastore, 1) := by decide +kernel
theorem dX8_marks_77 : decode cX8_marks 77 = .ok (.iinc 3 1, 3) := by decide +kernel
theorem dX8_marks_80 : decode cX8_marks 80 = .ok (.goto (-36), 3) := by decide +kernel
theorem dX8_marks_83 : decode cX8_marks 83 = .ok (.aload_n 0, 1) := by decide +kernel
theorem dX8_marks_84 : decode cX8_marks 84 = .ok (.getfield 7, 3) := by decide +kernel
theorem dX8_marks_87 : decode cX8_marks 87 = .ok (.bipush 7, 2) := by decide +kernel
theorem dX8_marks_89 : decode cX8_marks 89 = .ok (.dup2, 1) := by decide +kernel
theorem dX8_marks_90 : decode cX8_marks 90 = .ok (.iaload, 1) := by decide +kernel
theorem dX8_marks_91 : decode cX8_marks 91 = .ok (.iconst 1, 1) := by decide +kernel
theorem dX8_marks_92 : decode cX8_marks 92 = .ok (.isub, 1) := by decide +kernel
theorem dX8_marks_93 : decode cX8_marks 93 = .ok (.iastore, 1) := by decide +kernel
theorem dX8_marks_94 : decode cX8_marks 94 = .ok (.aload_n 0, 1) := by decide +kernel
theorem dX8_marks_95 : decode cX8_marks 95 = .ok (.getfield 7, 3) := by decide +kernel
theorem dX8_marks_98 : decode cX8_marks 98 = .ok (.bipush 8, 2) := by decide +kernel
theorem dX8_marks_100 : decode cX8_marks 100 = .ok (.aload_n 0, 1) := by decide +kernel
theorem dX8_marks_101 : decode cX8_marks 101 = .ok (.getfield 7, 3) := by decide +kernel
theorem dX8_marks_104 : decode cX8_marks 104 = .ok (.bipush 7, 2) := by decide +kernel
theorem dX8_marks_106 : decode cX8_marks 106 = .ok (.iaload, 1) := by decide +kernel
theorem dX8_marks_107 : decode cX8_marks 107 = .ok (.iadd, 1) := by decide +kernel
theorem dX8_marks_108 : decode cX8_marks 108 = .ok (.iconst 0, 1) := by decide +kernel
theorem dX8_marks_109 : decode cX8_marks 109 = .ok (.iastore, 1) := by decide +kernel
theorem dX8_marks_110 : decode cX8_marks 110 = .ok (.aload_n 0, 1) := by decide +kernel
theorem dX8_marks_111 : decode cX8_marks 111 = .ok (.getfield 7, 3) := by decide +kernel
theorem dX8_marks_114 : decode cX8_marks 114 = .ok (.iconst 3, 1) := by decide +kernel
theorem dX8_marks_115 : decode cX8_marks 115 = .ok (.iaload, 1) := by decide +kernel
theorem dX8_marks_116 : decode cX8_marks 116 = .ok (.ifCond .le 62, 3) := by decide +kernel
theorem dX8_marks_119 : decode cX8_marks 119 = .ok (.aload_n 0, 1) := by decide +kernel
theorem dX8_marks_120 : decode cX8_marks 120 = .ok (.getfield 7, 3) := by decide +kernel
theorem dX8_marks_123 : decode cX8_marks 123 = .ok (.bipush 7, 2) := by decide +kernel
theorem dX8_marks_125 : decode cX8_marks 125 = .ok (.iaload, 1) := by decide +kernel
theorem dX8_marks_126 : decode cX8_marks 126 = .ok (.aload_n 0, 1) := by decide +kernel
theorem dX8_marks_127 : decode cX8_marks 127 = .ok (.getfield 7, 3) := by decide +kernel
theorem dX8_marks_130 : decode cX8_marks 130 = .ok (.iconst 3, 1) := by decide +kernel
theorem dX8_marks_131 : decode cX8_marks 131 = .ok (.iaload, 1) := by decide +kernel
theorem dX8_marks_132 : decode cX8_marks 132 = .ok (.if_icmp .lt 46, 3) := by decide +kernel
theorem dX8_marks_135 : decode cX8_marks 135 = .ok (.aload_n 0, 1) := by decide +kernel
theorem dX8_marks_136 : decode cX8_marks 136 = .ok (.invokevirtual 120, 3) := by decide +kernel
theorem dX8_marks_139 : decode cX8_marks 139 = .ok (.istore_n 3, 1) := by decide +kernel
theorem dX8_marks_140 : decode cX8_marks 140 = .ok (.aload_n 0, 1) := by decide +kernel
theorem dX8_marks_141 : decode cX8_marks 141 = .ok (.getfield 7, 3) := by decide +kernel
theorem dX8_marks_144 : decode cX8_marks 144 = .ok (.iconst 5, 1) := by decide +kernel
theorem dX8_marks_145 : decode cX8_marks 145 = .ok (.aload_n 0, 1) := by decide +kernel
theorem dX8_marks_146 : decode cX8_marks 146 = .ok (.iload_n 3, 1) := by decide +kernel
theorem dX8_marks_147 : decode cX8_marks 147 = .ok (.invokevirtual 123, 3) := by decide +kernel
theorem dX8_marks_150 : decode cX8_marks 150 = .ok (.aload_n 0, 1) := by decide +kernel
theorem dX8_marks_151 : decode cX8_marks 151 = .ok (.aload_n 0, 1) := by decide +kernel
theorem dX8_marks_152 : decode cX8_marks 152 = .ok (.getfield 7, 3) := by decide +kernel
theorem dX8_marks_155 : decode cX8_marks 155 = .ok (.iconst 5, 1) := by decide +kernel
theorem dX8_marks_156 : decode cX8_marks 156 = .ok (.iaload, 1) := by decide +kernel
theorem dX8_marks_157 : decode cX8_marks 157 = .ok (.invokevirtual 123, 3) := by decide +kernel
theorem dX8_marks_160 : decode cX8_marks 160 = .ok (.if_icmp .ge 7, 3) := by decide +kernel
theorem dX8_marks_163 : decode cX8_marks 163 = .ok (.iload_n 3, 1) := by decide +kernel
theorem dX8_marks_164 : decode cX8_marks 164 = .ok (.goto 9, 3) := by decide +kernel
theorem dX8_marks_167 : decode cX8_marks 167 = .ok (.aload_n 0, 1) := by decide +kernel
theorem dX8_marks_168 : decode cX8_marks 168 = .ok (.getfield 7, 3) := by decide +kernel
theorem dX8_marks_171 : decode cX8_marks 171 = .ok (.iconst 5, 1) := by decide +kernel
theorem dX8_marks_172 : decode cX8_marks 172 = .ok (.iaload, 1) := by decide +kernel
theorem dX8_marks_173 : decode cX8_marks 173 = .ok (.iastore, 1) := by decide +kernel
theorem dX8_marks_174 : decode cX8_marks 174 = .ok (.aload_n 0, 1) := by decide +kernel
theorem dX8_marks_175 : decode cX8_marks 175 = .ok (.invokevirtual 126, 3) := by decide +kernel
theorem dX8_marks_178 : decode cX8_marks 178 = .ok (.return_, 1) := by decide +kernel
theorem dX8_isNode_0 : decode cX8_isNode 0 = .ok (.iload_n 1, 1) := by decide +kernel
theorem dX8_isNode_1 : decode cX8_isNode 1 = .ok (.iconst 0, 1) := by decide +kernel
theorem dX8_isNode_2 : decode cX8_isNode 2 = .ok (.aload_n 0, 1) := by decide +kernel
theorem dX8_isNode_3 : decode cX8_isNode 3 = .ok (.getfield 7, 3) := by decide +kernel
theorem dX8_isNode_6 : decode cX8_isNode 6 = .ok (.iconst 0, 1) := by decide +kernel
theorem dX8_isNode_7 : decode cX8_isNode 7 = .ok (.iaload, 1) := by decide +kernel
theorem dX8_isNode_8 : decode cX8_isNode 8 = .ok (.iconst 1, 1) := by decide +kernel
theorem dX8_isNode_9 : decode cX8_isNode 9 = .ok (.isub, 1) := by decide +kernel
theorem dX8_isNode_10 : decode cX8_isNode 10 = .ok (.invokestatic 40, 3) := by decide +kernel
theorem dX8_isNode_13 : decode cX8_isNode 13 = .ok (.ireturn, 1) := by decide +kernel
theorem dX8_joins_0 : decode cX8_joins 0 = .ok (.aload_n 0, 1) := by decide +kernel
theorem dX8_joins_1 : decode cX8_joins 1 = .ok (.iconst 0, 1) := by decide +kernel
theorem dX8_joins_2 : decode cX8_joins 2 = .ok (.putfield 36, 3) := by decide +kernel
theorem dX8_joins_5 : decode cX8_joins 5 = .ok (.aload_n 0, 1) := by decide +kernel
theorem dX8_joins_6 : decode cX8_joins 6 = .ok (.iload_n 1, 1) := by decide +kernel
theorem dX8_joins_7 : decode cX8_joins 7 = .ok (.invokevirtual 129, 3) := by decide +kernel
theorem dX8_joins_10 : decode cX8_joins 10 = .ok (.ifCond .ne 5, 3) := by decide +kernel
theorem dX8_joins_13 : decode cX8_joins 13 = .ok (.iconst (-1), 1) := by decide +kernel
theorem dX8_joins_14 : decode cX8_joins 14 = .ok (.ireturn, 1) := by decide +kernel
theorem dX8_joins_15 : decode cX8_joins 15 = .ok (.aload_n 0, 1) := by decide +kernel
theorem dX8_joins_16 : decode cX8_joins 16 = .ok (.aload_n 0, 1) := by decide +kernel
theorem dX8_joins_17 : decode cX8_joins 17 = .ok (.aload_n 0, 1) := by decide +kernel
theorem dX8_joins_18 : decode cX8_joins 18 = .ok (.getfield 7, 3) := by decide +kernel
theorem dX8_joins_21 : decode cX8_joins 21 = .ok (.iconst 5, 1) := by decide +kernel
theorem dX8_joins_22 : decode cX8_joins 22 = .ok (.iaload, 1) := by decide +kernel
theorem dX8_joins_23 : decode cX8_joins 23 = .ok (.invokevirtual 104, 3) := by decide +kernel
theorem dX8_joins_26 : decode cX8_joins 26 = .ok (.invokevirtual 107, 3) := by decide +kernel
theorem dX8_joins_29 : decode cX8_joins 29 = .ok (.iload_n 1, 1) := by decide +kernel
theorem dX8_joins_30 : decode cX8_joins 30 = .ok (.aload_n 0, 1) := by decide +kernel
theorem dX8_joins_31 : decode cX8_joins 31 = .ok (.getfield 7, 3) := by decide +kernel
theorem dX8_joins_34 : decode cX8_joins 34 = .ok (.iconst 2, 1) := by decide +kernel
theorem dX8_joins_35 : decode cX8_joins 35 = .ok (.iaload, 1) := by decide +kernel
theorem dX8_joins_36 : decode cX8_joins 36 = .ok (.if_icmp .eq 27, 3) := by decide +kernel
theorem dX8_joins_39 : decode cX8_joins 39 = .ok (.aload_n 0, 1) := by decide +kernel
theorem dX8_joins_40 : decode cX8_joins 40 = .ok (.getfield 7, 3) := by decide +kernel
theorem dX8_joins_43 : decode cX8_joins 43 = .ok (.iconst 4, 1) := by decide +kernel
theorem dX8_joins_44 : decode cX8_joins 44 = .ok (.iaload, 1) := by decide +kernel
theorem dX8_joins_45 : decode cX8_joins 45 = .ok (.iload_n 1, 1) := by decide +kernel
theorem dX8_joins_46 : decode cX8_joins 46 = .ok (.invokestatic 94, 3) := by decide +kernel
theorem dX8_joins_49 : decode cX8_joins 49 = .ok (.ifCond .ne 14, 3) := by decide +kernel
theorem dX8_joins_52 : decode cX8_joins 52 = .ok (.aload_n 0, 1) := by decide +kernel
theorem dX8_joins_53 : decode cX8_joins 53 = .ok (.getfield 33, 3) := by decide +kernel
theorem dX8_joins_56 : decode cX8_joins 56 = .ok (.iload_n 1, 1) := by decide +kernel
theorem dX8_joins_57 : decode cX8_joins 57 = .ok (.iaload, 1) := by decide +kernel
theorem dX8_joins_58 : decode cX8_joins 58 = .ok (.ldc 97, 2) := by decide +kernel
theorem dX8_joins_60 : decode cX8_joins 60 = .ok (.if_icmp .lt 6, 3) := by decide +kernel
theorem dX8_joins_63 : decode cX8_joins 63 = .ok (.bipush (-2), 2) := by decide +kernel
theorem dX8_joins_65 : decode cX8_joins 65 = .ok (.ireturn, 1) := by decide +kernel
theorem dX8_joins_66 : decode cX8_joins 66 = .ok (.aload_n 0, 1) := by decide +kernel
theorem dX8_joins_67 : decode cX8_joins 67 = .ok (.invokevirtual 91, 3) := by decide +kernel
theorem dX8_joins_70 : decode cX8_joins 70 = .ok (.aload_n 0, 1) := by decide +kernel
theorem dX8_joins_71 : decode cX8_joins 71 = .ok (.getfield 7, 3) := by decide +kernel
theorem dX8_joins_74 : decode cX8_joins 74 = .ok (.iconst 4, 1) := by decide +kernel
theorem dX8_joins_75 : decode cX8_joins 75 = .ok (.dup2, 1) := by decide +kernel
theorem dX8_joins_76 : decode cX8_joins 76 = .ok (.iaload, 1) := by decide +kernel
theorem dX8_joins_77 : decode cX8_joins 77 = .ok (.iconst 1, 1) := by decide +kernel
theorem dX8_joins_78 : decode cX8_joins 78 = .ok (.iload_n 1, 1) := by decide +kernel
theorem dX8_joins_79 : decode cX8_joins 79 = .ok (.ishl, 1) := by decide +kernel
theorem dX8_joins_80 : decode cX8_joins 80 = .ok (.ior, 1) := by decide +kernel
theorem dX8_joins_81 : decode cX8_joins 81 = .ok (.iastore, 1) := by decide +kernel
theorem dX8_joins_82 : decode cX8_joins 82 = .ok (.aload_n 0, 1) := by decide +kernel
theorem dX8_joins_83 : decode cX8_joins 83 = .ok (.getfield 7, 3) := by decide +kernel
theorem dX8_joins_86 : decode cX8_joins 86 = .ok (.iconst 5, 1) := by decide +kernel
theorem dX8_joins_87 : decode cX8_joins 87 = .ok (.dup2, 1) := by decide +kernel
theorem dX8_joins_88 : decode cX8_joins 88 = .ok (.iaload, 1) := by decide +kernel
theorem dX8_joins_89 : decode cX8_joins 89 = .ok (.aload_n 0, 1) := by decide +kernel
theorem dX8_joins_90 : decode cX8_joins 90 = .ok (.iload_n 1, 1) := by decide +kernel
theorem dX8_joins_91 : decode cX8_joins 91 = .ok (.invokevirtual 111, 3) := by decide +kernel
theorem dX8_joins_94 : decode cX8_joins 94 = .ok (.ior, 1) := by decide +kernel
theorem dX8_joins_95 : decode cX8_joins 95 = .ok (.iastore, 1) := by decide +kernel
theorem dX8_joins_96 : decode cX8_joins 96 = .ok (.aload_n 0, 1) := by decide +kernel
theorem dX8_joins_97 : decode cX8_joins 97 = .ok (.iload_n 1, 1) := by decide +kernel
theorem dX8_joins_98 : decode cX8_joins 98 = .ok (.invokevirtual 133, 3) := by decide +kernel
theorem dX8_joins_101 : decode cX8_joins 101 = .ok (.aload_n 0, 1) := by decide +kernel
theorem dX8_joins_102 : decode cX8_joins 102 = .ok (.aload_n 0, 1) := by decide +kernel
theorem dX8_joins_103 : decode cX8_joins 103 = .ok (.getfield 7, 3) := by decide +kernel
theorem dX8_joins_106 : decode cX8_joins 106 = .ok (.iconst 5, 1) := by decide +kernel
theorem dX8_joins_107 : decode cX8_joins 107 = .ok (.iaload, 1) := by decide +kernel
theorem dX8_joins_108 : decode cX8_joins 108 = .ok (.invokevirtual 123, 3) := by decide +kernel
theorem dX8_joins_111 : decode cX8_joins 111 = .ok (.ireturn, 1) := by decide +kernel
theorem dX8_leaves_0 : decode cX8_leaves 0 = .ok (.aload_n 0, 1) := by decide +kernel
theorem dX8_leaves_1 : decode cX8_leaves 1 = .ok (.iconst 0, 1) := by decide +kernel
theorem dX8_leaves_2 : decode cX8_leaves 2 = .ok (.putfield 36, 3) := by decide +kernel
theorem dX8_leaves_5 : decode cX8_leaves 5 = .ok (.aload_n 0, 1) := by decide +kernel
theorem dX8_leaves_6 : decode cX8_leaves 6 = .ok (.iload_n 1, 1) := by decide +kernel
theorem dX8_leaves_7 : decode cX8_leaves 7 = .ok (.invokevirtual 129, 3) := by decide +kernel
theorem dX8_leaves_10 : decode cX8_leaves 10 = .ok (.ifCond .ne 5, 3) := by decide +kernel
theorem dX8_leaves_13 : decode cX8_leaves 13 = .ok (.iconst (-1), 1) := by decide +kernel
theorem dX8_leaves_14 : decode cX8_leaves 14 = .ok (.ireturn, 1) := by decide +kernel
theorem dX8_leaves_15 : decode cX8_leaves 15 = .ok (.aload_n 0, 1) := by decide +kernel
theorem dX8_leaves_16 : decode cX8_leaves 16 = .ok (.getfield 7, 3) := by decide +kernel
theorem dX8_leaves_19 : decode cX8_leaves 19 = .ok (.iconst 4, 1) := by decide +kernel
theorem dX8_leaves_20 : decode cX8_leaves 20 = .ok (.iaload, 1) := by decide +kernel
theorem dX8_leaves_21 : decode cX8_leaves 21 = .ok (.iload_n 1, 1) := by decide +kernel
theorem dX8_leaves_22 : decode cX8_leaves 22 = .ok (.invokestatic 94, 3) := by decide +kernel
theorem dX8_leaves_25 : decode cX8_leaves 25 = .ok (.ifCond .ne 6, 3) := by decide +kernel
theorem dX8_leaves_28 : decode cX8_leaves 28 = .ok (.bipush (-2), 2) := by decide +kernel
theorem dX8_leaves_30 : decode cX8_leaves 30 = .ok (.ireturn, 1) := by decide +kernel
theorem dX8_leaves_31 : decode cX8_leaves 31 = .ok (.aload_n 0, 1) := by decide +kernel
theorem dX8_leaves_32 : decode cX8_leaves 32 = .ok (.invokevirtual 91, 3) := by decide +kernel
theorem dX8_leaves_35 : decode cX8_leaves 35 = .ok (.aload_n 0, 1) := by decide +kernel
theorem dX8_leaves_36 : decode cX8_leaves 36 = .ok (.getfield 7, 3) := by decide +kernel
theorem dX8_leaves_39 : decode cX8_leaves 39 = .ok (.iconst 4, 1) := by decide +kernel
theorem dX8_leaves_40 : decode cX8_leaves 40 = .ok (.dup2, 1) := by decide +kernel
theorem dX8_leaves_41 : decode cX8_leaves 41 = .ok (.iaload, 1) := by decide +kernel
theorem dX8_leaves_42 : decode cX8_leaves 42 = .ok (.iconst 1, 1) := by decide +kernel
theorem dX8_leaves_43 : decode cX8_leaves 43 = .ok (.iload_n 1, 1) := by decide +kernel
theorem dX8_leaves_44 : decode cX8_leaves 44 = .ok (.ishl, 1) := by decide +kernel
theorem dX8_leaves_45 : decode cX8_leaves 45 = .ok (.iconst (-1), 1) := by decide +kernel
theorem dX8_leaves_46 : decode cX8_leaves 46 = .ok (.ixor, 1) := by decide +kernel
theorem dX8_leaves_47 : decode cX8_leaves 47 = .ok (.iand, 1) := by decide +kernel
theorem dX8_leaves_48 : decode cX8_leaves 48 = .ok (.iastore, 1) := by decide +kernel
theorem dX8_leaves_49 : decode cX8_leaves 49 = .ok (.aload_n 0, 1) := by decide +kernel
theorem dX8_leaves_50 : decode cX8_leaves 50 = .ok (.getfield 7, 3) := by decide +kernel
theorem dX8_leaves_53 : decode cX8_leaves 53 = .ok (.iconst 5, 1) := by decide +kernel
theorem dX8_leaves_54 : decode cX8_leaves 54 = .ok (.aload_n 0, 1) := by decide +kernel
theorem dX8_leaves_55 : decode cX8_leaves 55 = .ok (.aload_n 0, 1) := by decide +kernel
theorem dX8_leaves_56 : decode cX8_leaves 56 = .ok (.getfield 7, 3) := by decide +kernel
theorem dX8_leaves_59 : decode cX8_leaves 59 = .ok (.iconst 5, 1) := by decide +kernel
theorem dX8_leaves_60 : decode cX8_leaves 60 = .ok (.iaload, 1) := by decide +kernel
theorem dX8_leaves_61 : decode cX8_leaves 61 = .ok (.invokevirtual 136, 3) := by decide +kernel
theorem dX8_leaves_64 : decode cX8_leaves 64 = .ok (.iastore, 1) := by decide +kernel
theorem dX8_leaves_65 : decode cX8_leaves 65 = .ok (.aload_n 0, 1) := by decide +kernel
theorem dX8_leaves_66 : decode cX8_leaves 66 = .ok (.iload_n 1, 1) := by decide +kernel
theorem dX8_leaves_67 : decode cX8_leaves 67 = .ok (.invokevirtual 133, 3) := by decide +kernel
theorem dX8_leaves_70 : decode cX8_leaves 70 = .ok (.aload_n 0, 1) := by decide +kernel
theorem dX8_leaves_71 : decode cX8_leaves 71 = .ok (.aload_n 0, 1) := by decide +kernel
theorem dX8_leaves_72 : decode cX8_leaves 72 = .ok (.getfield 7, 3) := by decide +kernel
theorem dX8_leaves_75 : decode cX8_leaves 75 = .ok (.iconst 5, 1) := by decide +kernel
theorem dX8_leaves_76 : decode cX8_leaves 76 = .ok (.iaload, 1) := by decide +kernel
theorem dX8_leaves_77 : decode cX8_leaves 77 = .ok (.invokevirtual 123, 3) := by decide +kernel
theorem dX8_leaves_80 : decode cX8_leaves 80 = .ok (.ireturn, 1) := by decide +kernel
theorem dX8_rearranges_0 : decode cX8_rearranges 0 = .ok (.aload_n 0, 1) := by decide +kernel
theorem dX8_rearranges_1 : decode cX8_rearranges 1 = .ok (.iconst 0, 1) := by decide +kernel
theorem dX8_rearranges_2 : decode cX8_rearranges 2 = .ok (.putfield 36, 3) := by decide +kernel
theorem dX8_rearranges_5 : decode cX8_rearranges 5 = .ok (.aload_n 0, 1) := by decide +kernel
theorem dX8_rearranges_6 : decode cX8_rearranges 6 = .ok (.invokevirtual 120, 3) := by decide +kernel
theorem dX8_rearranges_9 : decode cX8_rearranges 9 = .ok (.istore_n 1, 1) := by decide +kernel
theorem dX8_rearranges_10 : decode cX8_rearranges 10 = .ok (.aload_n 0, 1) := by decide +kernel
theorem dX8_rearranges_11 : decode cX8_rearranges 11 = .ok (.aload_n 0, 1) := by decide +kernel
theorem dX8_rearranges_12 : decode cX8_rearranges 12 = .ok (.getfield 7, 3) := by decide +kernel
theorem dX8_rearranges_15 : decode cX8_rearranges 15 = .ok (.iconst 5, 1) := by decide +kernel
theorem dX8_rearranges_16 : decode cX8_rearranges 16 = .ok (.iaload, 1) := by decide +kernel
theorem dX8_rearranges_17 : decode cX8_rearranges 17 = .ok (.invokevirtual 123, 3) := by decide +kernel
theorem dX8_rearranges_20 : decode cX8_rearranges 20 = .ok (.aload_n 0, 1) := by decide +kernel
theorem dX8_rearranges_21 : decode cX8_rearranges 21 = .ok (.iload_n 1, 1) := by decide +kernel
theorem dX8_rearranges_22 : decode cX8_rearranges 22 = .ok (.invokevirtual 123, 3) := by decide +kernel
theorem dX8_rearranges_25 : decode cX8_rearranges 25 = .ok (.isub, 1) := by decide +kernel
theorem dX8_rearranges_26 : decode cX8_rearranges 26 = .ok (.istore_n 2, 1) := by decide +kernel
theorem dX8_rearranges_27 : decode cX8_rearranges 27 = .ok (.iload_n 2, 1) := by decide +kernel
theorem dX8_rearranges_28 : decode cX8_rearranges 28 = .ok (.ifCond .gt 6, 3) := by decide +kernel
theorem dX8_rearranges_31 : decode cX8_rearranges 31 = .ok (.bipush (-2), 2) := by decide +kernel
theorem dX8_rearranges_33 : decode cX8_rearranges 33 = .ok (.ireturn, 1) := by decide +kernel
theorem dX8_rearranges_34 : decode cX8_rearranges 34 = .ok (.aload_n 0, 1) := by decide +kernel
theorem dX8_rearranges_35 : decode cX8_rearranges 35 = .ok (.invokevirtual 91, 3) := by decide +kernel
theorem dX8_rearranges_38 : decode cX8_rearranges 38 = .ok (.aload_n 0, 1) := by decide +kernel
theorem dX8_rearranges_39 : decode cX8_rearranges 39 = .ok (.getfield 7, 3) := by decide +kernel
theorem dX8_rearranges_42 : decode cX8_rearranges 42 = .ok (.iconst 5, 1) := by decide +kernel
theorem dX8_rearranges_43 : decode cX8_rearranges 43 = .ok (.iload_n 1, 1) := by decide +kernel
theorem dX8_rearranges_44 : decode cX8_rearranges 44 = .ok (.iastore, 1) := by decide +kernel
theorem dX8_rearranges_45 : decode cX8_rearranges 45 = .ok (.aload_n 0, 1) := by decide +kernel
theorem dX8_rearranges_46 : decode cX8_rearranges 46 = .ok (.invokevirtual 126, 3) := by decide +kernel
theorem dX8_rearranges_49 : decode cX8_rearranges 49 = .ok (.iload_n 2, 1) := by decide +kernel
theorem dX8_rearranges_50 : decode cX8_rearranges 50 = .ok (.ireturn, 1) := by decide +kernel
theorem dX8_isLink_0 : decode cX8_isLink 0 = .ok (.iload_n 1, 1) := by decide +kernel
theorem dX8_isLink_1 : decode cX8_isLink 1 = .ok (.iconst 0, 1) := by decide +kernel
theorem dX8_isLink_2 : decode cX8_isLink 2 = .ok (.aload_n 0, 1) := by decide +kernel
theorem dX8_isLink_3 : decode cX8_isLink 3 = .ok (.getfield 7, 3) := by decide +kernel
theorem dX8_isLink_6 : decode cX8_isLink 6 = .ok (.iconst 1, 1) := by decide +kernel
theorem dX8_isLink_7 : decode cX8_isLink 7 = .ok (.iaload, 1) := by decide +kernel
theorem dX8_isLink_8 : decode cX8_isLink 8 = .ok (.iconst 1, 1) := by decide +kernel
theorem dX8_isLink_9 : decode cX8_isLink 9 = .ok (.isub, 1) := by decide +kernel
theorem dX8_isLink_10 : decode cX8_isLink 10 = .ok (.invokestatic 40, 3) := by decide +kernel
theorem dX8_isLink_13 : decode cX8_isLink 13 = .ok (.ireturn, 1) := by decide +kernel
theorem dX8_hanging_0 : decode cX8_hanging 0 = .ok (.aload_n 0, 1) := by decide +kernel
theorem dX8_hanging_1 : decode cX8_hanging 1 = .ok (.iload_n 1, 1) := by decide +kernel
theorem dX8_hanging_2 : decode cX8_hanging 2 = .ok (.invokevirtual 104, 3) := by decide +kernel
theorem dX8_hanging_5 : decode cX8_hanging 5 = .ok (.istore_n 2, 1) := by decide +kernel
theorem dX8_hanging_6 : decode cX8_hanging 6 = .ok (.iconst 0, 1) := by decide +kernel
theorem dX8_hanging_7 : decode cX8_hanging 7 = .ok (.istore_n 3, 1) := by decide +kernel
theorem dX8_hanging_8 : decode cX8_hanging 8 = .ok (.iconst 0, 1) := by decide +kernel
theorem dX8_hanging_9 : decode cX8_hanging 9 = .ok (.istore 4, 2) := by decide +kernel
theorem dX8_hanging_11 : decode cX8_hanging 11 = .ok (.iload 4, 2) := by decide +kernel
theorem dX8_hanging_13 : decode cX8_hanging 13 = .ok (.aload_n 0, 1) := by decide +kernel
theorem dX8_hanging_14 : decode cX8_hanging 14 = .ok (.getfield 7, 3) := by decide +kernel
theorem dX8_hanging_17 : decode cX8_hanging 17 = .ok (.iconst 1, 1) := by decide +kernel
theorem dX8_hanging_18 : decode cX8_hanging 18 = .ok (.iaload, 1) := by decide +kernel
theorem dX8_hanging_19 : decode cX8_hanging 19 = .ok (.if_icmp .ge 46, 3) := by decide +kernel
theorem dX8_hanging_22 : decode cX8_hanging 22 = .ok (.iload_n 3, 1) := by decide +kernel
theorem dX8_hanging_23 : decode cX8_hanging 23 = .ok (.iload_n 1, 1) := by decide +kernel
theorem dX8_hanging_24 : decode cX8_hanging 24 = .ok (.iload 4, 2) := by decide +kernel
theorem dX8_hanging_26 : decode cX8_hanging 26 = .ok (.invokestatic 94, 3) := by decide +kernel
theorem dX8_hanging_29 : decode cX8_hanging 29 = .ok (.ifCond .eq 27, 3) := by decide +kernel
theorem dX8_hanging_32 : decode cX8_hanging 32 = .ok (.iload_n 2, 1) := by decide +kernel
theorem dX8_hanging_33 : decode cX8_hanging 33 = .ok (.aload_n 0, 1) := by decide +kernel
theorem dX8_hanging_34 : decode cX8_hanging 34 = .ok (.getfield 7, 3) := by decide +kernel
theorem dX8_hanging_37 : decode cX8_hanging 37 = .ok (.bipush 16, 2) := by decide +kernel
theorem dX8_hanging_39 : decode cX8_hanging 39 = .ok (.iload 4, 2) := by decide +kernel
theorem dX8_hanging_41 : decode cX8_hanging 41 = .ok (.iadd, 1) := by decide +kernel
theorem dX8_hanging_42 : decode cX8_hanging 42 = .ok (.iaload, 1) := by decide +kernel
theorem dX8_hanging_43 : decode cX8_hanging 43 = .ok (.invokestatic 94, 3) := by decide +kernel
theorem dX8_hanging_46 : decode cX8_hanging 46 = .ok (.ifCond .eq 10, 3) := by decide +kernel
theorem dX8_hanging_49 : decode cX8_hanging 49 = .ok (.iconst 1, 1) := by decide +kernel
theorem dX8_hanging_50 : decode cX8_hanging 50 = .ok (.iload 4, 2) := by decide +kernel
theorem dX8_hanging_52 : decode cX8_hanging 52 = .ok (.ishl, 1) := by decide +kernel
theorem dX8_hanging_53 : decode cX8_hanging 53 = .ok (.goto 4, 3) := by decide +kernel
theorem dX8_hanging_56 : decode cX8_hanging 56 = .ok (.iconst 0, 1) := by decide +kernel
theorem dX8_hanging_57 : decode cX8_hanging 57 = .ok (.ior, 1) := by decide +kernel
theorem dX8_hanging_58 : decode cX8_hanging 58 = .ok (.istore_n 3, 1) := by decide +kernel
theorem dX8_hanging_59 : decode cX8_hanging 59 = .ok (.iinc 4 1, 3) := by decide +kernel
theorem dX8_hanging_62 : decode cX8_hanging 62 = .ok (.goto (-51), 3) := by decide +kernel
theorem dX8_hanging_65 : decode cX8_hanging 65 = .ok (.iload_n 3, 1) := by decide +kernel
theorem dX8_hanging_66 : decode cX8_hanging 66 = .ok (.ireturn, 1) := by decide +kernel
theorem dX8_cuts_0 : decode cX8_cuts 0 = .ok (.aload_n 0, 1) := by decide +kernel
theorem dX8_cuts_1 : decode cX8_cuts 1 = .ok (.iconst 0, 1) := by decide +kernel
theorem dX8_cuts_2 : decode cX8_cuts 2 = .ok (.putfield 36, 3) := by decide +kernel
theorem dX8_cuts_5 : decode cX8_cuts 5 = .ok (.aload_n 0, 1) := by decide +kernel
theorem dX8_cuts_6 : decode cX8_cuts 6 = .ok (.iload_n 1, 1) := by decide +kernel
theorem dX8_cuts_7 : decode cX8_cuts 7 = .ok (.invokevirtual 139, 3) := by decide +kernel
theorem dX8_cuts_10 : decode cX8_cuts 10 = .ok (.ifCond .ne 5, 3) := by decide +kernel
theorem dX8_cuts_13 : decode cX8_cuts 13 = .ok (.iconst (-1), 1) := by decide +kernel
theorem dX8_cuts_14 : decode cX8_cuts 14 = .ok (.ireturn, 1) := by decide +kernel
theorem dX8_cuts_15 : decode cX8_cuts 15 = .ok (.aload_n 0, 1) := by decide +kernel
theorem dX8_cuts_16 : decode cX8_cuts 16 = .ok (.getfield 7, 3) := by decide +kernel
theorem dX8_cuts_19 : decode cX8_cuts 19 = .ok (.bipush 6, 2) := by decide +kernel
theorem dX8_cuts_21 : decode cX8_cuts 21 = .ok (.iaload, 1) := by decide +kernel
theorem dX8_cuts_22 : decode cX8_cuts 22 = .ok (.iload_n 1, 1) := by decide +kernel
theorem dX8_cuts_23 : decode cX8_cuts 23 = .ok (.invokestatic 94, 3) := by decide +kernel
theorem dX8_cuts_26 : decode cX8_cuts 26 = .ok (.ifCond .eq 6, 3) := by decide +kernel
theorem dX8_cuts_29 : decode cX8_cuts 29 = .ok (.bipush (-2), 2) := by decide +kernel
theorem dX8_cuts_31 : decode cX8_cuts 31 = .ok (.ireturn, 1) := by decide +kernel
theorem dX8_cuts_32 : decode cX8_cuts 32 = .ok (.aload_n 0, 1) := by decide +kernel
theorem dX8_cuts_33 : decode cX8_cuts 33 = .ok (.invokevirtual 91, 3) := by decide +kernel
theorem dX8_cuts_36 : decode cX8_cuts 36 = .ok (.aload_n 0, 1) := by decide +kernel
theorem dX8_cuts_37 : decode cX8_cuts 37 = .ok (.getfield 7, 3) := by decide +kernel
theorem dX8_cuts_40 : decode cX8_cuts 40 = .ok (.bipush 6, 2) := by decide +kernel
theorem dX8_cuts_42 : decode cX8_cuts 42 = .ok (.dup2, 1) := by decide +kernel
theorem dX8_cuts_43 : decode cX8_cuts 43 = .ok (.iaload, 1) := by decide +kernel
theorem dX8_cuts_44 : decode cX8_cuts 44 = .ok (.iconst 1, 1) := by decide +kernel
theorem dX8_cuts_45 : decode cX8_cuts 45 = .ok (.iload_n 1, 1) := by decide +kernel
theorem dX8_cuts_46 : decode cX8_cuts 46 = .ok (.ishl, 1) := by decide +kernel
theorem dX8_cuts_47 : decode cX8_cuts 47 = .ok (.ior, 1) := by decide +kernel
theorem dX8_cuts_48 : decode cX8_cuts 48 = .ok (.iastore, 1) := by decide +kernel
theorem dX8_cuts_49 : decode cX8_cuts 49 = .ok (.aload_n 0, 1) := by decide +kernel
theorem dX8_cuts_50 : decode cX8_cuts 50 = .ok (.getfield 7, 3) := by decide +kernel
theorem dX8_cuts_53 : decode cX8_cuts 53 = .ok (.iconst 5, 1) := by decide +kernel
theorem dX8_cuts_54 : decode cX8_cuts 54 = .ok (.iaload, 1) := by decide +kernel
theorem dX8_cuts_55 : decode cX8_cuts 55 = .ok (.iload_n 1, 1) := by decide +kernel
theorem dX8_cuts_56 : decode cX8_cuts 56 = .ok (.invokestatic 94, 3) := by decide +kernel
theorem dX8_cuts_59 : decode cX8_cuts 59 = .ok (.ifCond .ne 5, 3) := by decide +kernel
theorem dX8_cuts_62 : decode cX8_cuts 62 = .ok (.iconst 0, 1) := by decide +kernel
theorem dX8_cuts_63 : decode cX8_cuts 63 = .ok (.ireturn, 1) := by decide +kernel
theorem dX8_cuts_64 : decode cX8_cuts 64 = .ok (.iconst 0, 1) := by decide +kernel
theorem dX8_cuts_65 : decode cX8_cuts 65 = .ok (.istore_n 2, 1) := by decide +kernel
theorem dX8_cuts_66 : decode cX8_cuts 66 = .ok (.aload_n 0, 1) := by decide +kernel
theorem dX8_cuts_67 : decode cX8_cuts 67 = .ok (.getfield 7, 3) := by decide +kernel
theorem dX8_cuts_70 : decode cX8_cuts 70 = .ok (.iconst 5, 1) := by decide +kernel
theorem dX8_cuts_71 : decode cX8_cuts 71 = .ok (.aload_n 0, 1) := by decide +kernel
theorem dX8_cuts_72 : decode cX8_cuts 72 = .ok (.aload_n 0, 1) := by decide +kernel
theorem dX8_cuts_73 : decode cX8_cuts 73 = .ok (.getfield 7, 3) := by decide +kernel
theorem dX8_cuts_76 : decode cX8_cuts 76 = .ok (.iconst 5, 1) := by decide +kernel
theorem dX8_cuts_77 : decode cX8_cuts 77 = .ok (.iaload, 1) := by decide +kernel
theorem dX8_cuts_78 : decode cX8_cuts 78 = .ok (.iconst 1, 1) := by decide +kernel
theorem dX8_cuts_79 : decode cX8_cuts 79 = .ok (.iload_n 1, 1) := by decide +kernel
theorem dX8_cuts_80 : decode cX8_cuts 80 = .ok (.ishl, 1) := by decide +kernel
theorem dX8_cuts_81 : decode cX8_cuts 81 = .ok (.iconst (-1), 1) := by decide +kernel
theorem dX8_cuts_82 : decode cX8_cuts 82 = .ok (.ixor, 1) := by decide +kernel
theorem dX8_cuts_83 : decode cX8_cuts 83 = .ok (.iand, 1) := by decide +kernel
theorem dX8_cuts_84 : decode cX8_cuts 84 = .ok (.invokevirtual 142, 3) := by decide +kernel
theorem dX8_cuts_87 : decode cX8_cuts 87 = .ok (.iastore, 1) := by decide +kernel
theorem dX8_cuts_88 : decode cX8_cuts 88 = .ok (.iconst 0, 1) := by decide +kernel
theorem dX8_cuts_89 : decode cX8_cuts 89 = .ok (.istore_n 3, 1) := by decide +kernel
theorem dX8_cuts_90 : decode cX8_cuts 90 = .ok (.iload_n 3, 1) := by decide +kernel
theorem dX8_cuts_91 : decode cX8_cuts 91 = .ok (.aload_n 0, 1) := by decide +kernel
theorem dX8_cuts_92 : decode cX8_cuts 92 = .ok (.getfield 7, 3) := by decide +kernel
theorem dX8_cuts_95 : decode cX8_cuts 95 = .ok (.iconst 0, 1) := by decide +kernel
theorem dX8_cuts_96 : decode cX8_cuts 96 = .ok (.iaload, 1) := by decide +kernel
theorem dX8_cuts_97 : decode cX8_cuts 97 = .ok (.if_icmp .ge 126, 3) := by decide +kernel
theorem dX8_cuts_100 : decode cX8_cuts 100 = .ok (.aload_n 0, 1) := by decide +kernel
theorem dX8_cuts_101 : decode cX8_cuts 101 = .ok (.aload_n 0, 1) := by decide +kernel
theorem dX8_cuts_102 : decode cX8_cuts 102 = .ok (.getfield 7, 3) := by decide +kernel
theorem dX8_cuts_105 : decode cX8_cuts 105 = .ok (.iconst 5, 1) := by decide +kernel
theorem dX8_cuts_106 : decode cX8_cuts 106 = .ok (.iaload, 1) := by decide +kernel
theorem dX8_cuts_107 : decode cX8_cuts 107 = .ok (.invokevirtual 104, 3) := by decide +kernel
theorem dX8_cuts_110 : decode cX8_cuts 110 = .ok (.istore 4, 2) := by decide +kernel
theorem dX8_cuts_112 : decode cX8_cuts 112 = .ok (.aload_n 0, 1) := by decide +kernel
theorem dX8_cuts_113 : decode cX8_cuts 113 = .ok (.getfield 7, 3) := by decide +kernel
theorem dX8_cuts_116 : decode cX8_cuts 116 = .ok (.iconst 4, 1) := by decide +kernel
theorem dX8_cuts_117 : decode cX8_cuts 117 = .ok (.iaload, 1) := by decide +kernel
theorem dX8_cuts_118 : decode cX8_cuts 118 = .ok (.iload_n 3, 1) := by decide +kernel
theorem dX8_cuts_119 : decode cX8_cuts 119 = .ok (.invokestatic 94, 3) := by decide +kernel
theorem dX8_cuts_122 : decode cX8_cuts 122 = .ok (.ifCond .eq 95, 3) := by decide +kernel
theorem dX8_cuts_125 : decode cX8_cuts 125 = .ok (.iload 4, 2) := by decide +kernel
theorem dX8_cuts_127 : decode cX8_cuts 127 = .ok (.iload_n 3, 1) := by decide +kernel
theorem dX8_cuts_128 : decode cX8_cuts 128 = .ok (.invokestatic 94, 3) := by decide +kernel
theorem dX8_cuts_131 : decode cX8_cuts 131 = .ok (.ifCond .ne 86, 3) := by decide +kernel
theorem dX8_cuts_134 : decode cX8_cuts 134 = .ok (.aload_n 0, 1) := by decide +kernel
theorem dX8_cuts_135 : decode cX8_cuts 135 = .ok (.iload 4, 2) := by decide +kernel
theorem dX8_cuts_137 : decode cX8_cuts 137 = .ok (.invokevirtual 107, 3) := by decide +kernel
theorem dX8_cuts_140 : decode cX8_cuts 140 = .ok (.aload_n 0, 1) := by decide +kernel
theorem dX8_cuts_141 : decode cX8_cuts 141 = .ok (.getfield 33, 3) := by decide +kernel
theorem dX8_cuts_144 : decode cX8_cuts 144 = .ok (.iload_n 3, 1) := by decide +kernel
theorem dX8_cuts_145 : decode cX8_cuts 145 = .ok (.iaload, 1) := by decide +kernel
theorem dX8_cuts_146 : decode cX8_cuts 146 = .ok (.ldc 97, 2) := by decide +kernel
theorem dX8_cuts_148 : decode cX8_cuts 148 = .ok (.if_icmp .ge 7, 3) := by decide +kernel
theorem dX8_cuts_151 : decode cX8_cuts 151 = .ok (.iconst 1, 1) := by decide +kernel
theorem dX8_cuts_152 : decode cX8_cuts 152 = .ok (.goto 4, 3) := by decide +kernel
theorem dX8_cuts_155 : decode cX8_cuts 155 = .ok (.iconst 0, 1) := by decide +kernel
theorem dX8_cuts_156 : decode cX8_cuts 156 = .ok (.istore 5, 2) := by decide +kernel
theorem dX8_cuts_158 : decode cX8_cuts 158 = .ok (.aload_n 0, 1) := by decide +kernel
theorem dX8_cuts_159 : decode cX8_cuts 159 = .ok (.getfield 7, 3) := by decide +kernel
theorem dX8_cuts_162 : decode cX8_cuts 162 = .ok (.iconst 5, 1) := by decide +kernel
theorem dX8_cuts_163 : decode cX8_cuts 163 = .ok (.dup2, 1) := by decide +kernel
theorem dX8_cuts_164 : decode cX8_cuts 164 = .ok (.iaload, 1) := by decide +kernel
theorem dX8_cuts_165 : decode cX8_cuts 165 = .ok (.iload 5, 2) := by decide +kernel
theorem dX8_cuts_167 : decode cX8_cuts 167 = .ok (.ifCond .eq 11, 3) := by decide +kernel
theorem dX8_cuts_170 : decode cX8_cuts 170 = .ok (.aload_n 0, 1) := by decide +kernel
theorem dX8_cuts_171 : decode cX8_cuts 171 = .ok (.iload_n 3, 1) := by decide +kernel
theorem dX8_cuts_172 : decode cX8_cuts 172 = .ok (.invokevirtual 111, 3) := by decide +kernel
theorem dX8_cuts_175 : decode cX8_cuts 175 = .ok (.goto 4, 3) := by decide +kernel
theorem dX8_cuts_178 : decode cX8_cuts 178 = .ok (.iconst 0, 1) := by decide +kernel
theorem dX8_cuts_179 : decode cX8_cuts 179 = .ok (.ior, 1) := by decide +kernel
theorem dX8_cuts_180 : decode cX8_cuts 180 = .ok (.iastore, 1) := by decide +kernel
theorem dX8_cuts_181 : decode cX8_cuts 181 = .ok (.aload_n 0, 1) := by decide +kernel
theorem dX8_cuts_182 : decode cX8_cuts 182 = .ok (.getfield 7, 3) := by decide +kernel
theorem dX8_cuts_185 : decode cX8_cuts 185 = .ok (.iconst 4, 1) := by decide +kernel
theorem dX8_cuts_186 : decode cX8_cuts 186 = .ok (.dup2, 1) := by decide +kernel
theorem dX8_cuts_187 : decode cX8_cuts 187 = .ok (.iaload, 1) := by decide +kernel
theorem dX8_cuts_188 : decode cX8_cuts 188 = .ok (.iload 5, 2) := by decide +kernel
theorem dX8_cuts_190 : decode cX8_cuts 190 = .ok (.ifCond .eq 7, 3) := by decide +kernel
theorem dX8_cuts_193 : decode cX8_cuts 193 = .ok (.iconst (-1), 1) := by decide +kernel
theorem dX8_cuts_194 : decode cX8_cuts 194 = .ok (.goto 8, 3) := by decide +kernel
theorem dX8_cuts_197 : decode cX8_cuts 197 = .ok (.iconst 1, 1) := by decide +kernel
theorem dX8_cuts_198 : decode cX8_cuts 198 = .ok (.iload_n 3, 1) := by decide +kernel
theorem dX8_cuts_199 : decode cX8_cuts 199 = .ok (.ishl, 1) := by decide +kernel
theorem dX8_cuts_200 : decode cX8_cuts 200 = .ok (.iconst (-1), 1) := by decide +kernel
theorem dX8_cuts_201 : decode cX8_cuts 201 = .ok (.ixor, 1) := by decide +kernel
theorem dX8_cuts_202 : decode cX8_cuts 202 = .ok (.iand, 1) := by decide +kernel
theorem dX8_cuts_203 : decode cX8_cuts 203 = .ok (.iastore, 1) := by decide +kernel
theorem dX8_cuts_204 : decode cX8_cuts 204 = .ok (.iload_n 2, 1) := by decide +kernel
theorem dX8_cuts_205 : decode cX8_cuts 205 = .ok (.iload 5, 2) := by decide +kernel
theorem dX8_cuts_207 : decode cX8_cuts 207 = .ok (.ifCond .eq 7, 3) := by decide +kernel
theorem dX8_cuts_210 : decode cX8_cuts 210 = .ok (.iconst 0, 1) := by decide +kernel
theorem dX8_cuts_211 : decode cX8_cuts 211 = .ok (.goto 4, 3) := by decide +kernel
theorem dX8_cuts_214 : decode cX8_cuts 214 = .ok (.iconst 1, 1) := by decide +kernel
theorem dX8_cuts_215 : decode cX8_cuts 215 = .ok (.iadd, 1) := by decide +kernel
theorem dX8_cuts_216 : decode cX8_cuts 216 = .ok (.istore_n 2, 1) := by decide +kernel
theorem dX8_cuts_217 : decode cX8_cuts 217 = .ok (.iinc 3 1, 3) := by decide +kernel
theorem dX8_cuts_220 : decode cX8_cuts 220 = .ok (.goto (-130), 3) := by decide +kernel
theorem dX8_cuts_223 : decode cX8_cuts 223 = .ok (.aload_n 0, 1) := by decide +kernel
theorem dX8_cuts_224 : decode cX8_cuts 224 = .ok (.getfield 7, 3) := by decide +kernel
theorem dX8_cuts_227 : decode cX8_cuts 227 = .ok (.iconst 5, 1) := by decide +kernel
theorem dX8_cuts_228 : decode cX8_cuts 228 = .ok (.aload_n 0, 1) := by decide +kernel
theorem dX8_cuts_229 : decode cX8_cuts 229 = .ok (.aload_n 0, 1) := by decide +kernel
theorem dX8_cuts_230 : decode cX8_cuts 230 = .ok (.getfield 7, 3) := by decide +kernel
theorem dX8_cuts_233 : decode cX8_cuts 233 = .ok (.iconst 5, 1) := by decide +kernel
theorem dX8_cuts_234 : decode cX8_cuts 234 = .ok (.iaload, 1) := by decide +kernel
theorem dX8_cuts_235 : decode cX8_cuts 235 = .ok (.invokevirtual 136, 3) := by decide +kernel
theorem dX8_cuts_238 : decode cX8_cuts 238 = .ok (.iastore, 1) := by decide +kernel
theorem dX8_cuts_239 : decode cX8_cuts 239 = .ok (.iload_n 2, 1) := by decide +kernel
theorem dX8_cuts_240 : decode cX8_cuts 240 = .ok (.ireturn, 1) := by decide +kernel
theorem dX8_mends_0 : decode cX8_mends 0 = .ok (.aload_n 0, 1) := by decide +kernel
theorem dX8_mends_1 : decode cX8_mends 1 = .ok (.iconst 0, 1) := by decide +kernel
theorem dX8_mends_2 : decode cX8_mends 2 = .ok (.putfield 36, 3) := by decide +kernel
theorem dX8_mends_5 : decode cX8_mends 5 = .ok (.aload_n 0, 1) := by decide +kernel
theorem dX8_mends_6 : decode cX8_mends 6 = .ok (.iload_n 1, 1) := by decide +kernel
theorem dX8_mends_7 : decode cX8_mends 7 = .ok (.invokevirtual 139, 3) := by decide +kernel
theorem dX8_mends_10 : decode cX8_mends 10 = .ok (.ifCond .ne 5, 3) := by decide +kernel
theorem dX8_mends_13 : decode cX8_mends 13 = .ok (.iconst (-1), 1) := by decide +kernel
theorem dX8_mends_14 : decode cX8_mends 14 = .ok (.ireturn, 1) := by decide +kernel
theorem dX8_mends_15 : decode cX8_mends 15 = .ok (.aload_n 0, 1) := by decide +kernel
theorem dX8_mends_16 : decode cX8_mends 16 = .ok (.getfield 7, 3) := by decide +kernel
theorem dX8_mends_19 : decode cX8_mends 19 = .ok (.bipush 6, 2) := by decide +kernel
theorem dX8_mends_21 : decode cX8_mends 21 = .ok (.iaload, 1) := by decide +kernel
theorem dX8_mends_22 : decode cX8_mends 22 = .ok (.iload_n 1, 1) := by decide +kernel
theorem dX8_mends_23 : decode cX8_mends 23 = .ok (.invokestatic 94, 3) := by decide +kernel
theorem dX8_mends_26 : decode cX8_mends 26 = .ok (.ifCond .ne 6, 3) := by decide +kernel
theorem dX8_mends_29 : decode cX8_mends 29 = .ok (.bipush (-2), 2) := by decide +kernel
theorem dX8_mends_31 : decode cX8_mends 31 = .ok (.ireturn, 1) := by decide +kernel
theorem dX8_mends_32 : decode cX8_mends 32 = .ok (.aload_n 0, 1) := by decide +kernel
theorem dX8_mends_33 : decode cX8_mends 33 = .ok (.invokevirtual 91, 3) := by decide +kernel
theorem dX8_mends_36 : decode cX8_mends 36 = .ok (.aload_n 0, 1) := by decide +kernel
theorem dX8_mends_37 : decode cX8_mends 37 = .ok (.getfield 7, 3) := by decide +kernel
theorem dX8_mends_40 : decode cX8_mends 40 = .ok (.bipush 6, 2) := by decide +kernel
theorem dX8_mends_42 : decode cX8_mends 42 = .ok (.dup2, 1) := by decide +kernel
theorem dX8_mends_43 : decode cX8_mends 43 = .ok (.iaload, 1) := by decide +kernel
theorem dX8_mends_44 : decode cX8_mends 44 = .ok (.iconst 1, 1) := by decide +kernel
theorem dX8_mends_45 : decode cX8_mends 45 = .ok (.iload_n 1, 1) := by decide +kernel
theorem dX8_mends_46 : decode cX8_mends 46 = .ok (.ishl, 1) := by decide +kernel
theorem dX8_mends_47 : decode cX8_mends 47 = .ok (.iconst (-1), 1) := by decide +kernel
theorem dX8_mends_48 : decode cX8_mends 48 = .ok (.ixor, 1) := by decide +kernel
theorem dX8_mends_49 : decode cX8_mends 49 = .ok (.iand, 1) := by decide +kernel
theorem dX8_mends_50 : decode cX8_mends 50 = .ok (.iastore, 1) := by decide +kernel
theorem dX8_mends_51 : decode cX8_mends 51 = .ok (.aload_n 0, 1) := by decide +kernel
theorem dX8_mends_52 : decode cX8_mends 52 = .ok (.getfield 7, 3) := by decide +kernel
theorem dX8_mends_55 : decode cX8_mends 55 = .ok (.bipush 6, 2) := by decide +kernel
theorem dX8_mends_57 : decode cX8_mends 57 = .ok (.iaload, 1) := by decide +kernel
theorem dX8_mends_58 : decode cX8_mends 58 = .ok (.invokestatic 145, 3) := by decide +kernel
theorem dX8_mends_61 : decode cX8_mends 61 = .ok (.ireturn, 1) := by decide +kernel
theorem dX8_limits_0 : decode cX8_limits 0 = .ok (.aload_n 0, 1) := by decide +kernel
theorem dX8_limits_1 : decode cX8_limits 1 = .ok (.iconst 0, 1) := by decide +kernel
theorem dX8_limits_2 : decode cX8_limits 2 = .ok (.putfield 36, 3) := by decide +kernel
theorem dX8_limits_5 : decode cX8_limits 5 = .ok (.iload_n 1, 1) := by decide +kernel
theorem dX8_limits_6 : decode cX8_limits 6 = .ok (.iconst 0, 1) := by decide +kernel
theorem dX8_limits_7 : decode cX8_limits 7 = .ok (.bipush 9, 2) := by decide +kernel
theorem dX8_limits_9 : decode cX8_limits 9 = .ok (.invokestatic 40, 3) := by decide +kernel
theorem dX8_limits_12 : decode cX8_limits 12 = .ok (.ifCond .ne 5, 3) := by decide +kernel
theorem dX8_limits_15 : decode cX8_limits 15 = .ok (.iconst (-1), 1) := by decide +kernel
theorem dX8_limits_16 : decode cX8_limits 16 = .ok (.ireturn, 1) := by decide +kernel
theorem dX8_limits_17 : decode cX8_limits 17 = .ok (.aload_n 0, 1) := by decide +kernel
theorem dX8_limits_18 : decode cX8_limits 18 = .ok (.getfield 7, 3) := by decide +kernel
theorem dX8_limits_21 : decode cX8_limits 21 = .ok (.iconst 3, 1) := by decide +kernel
theorem dX8_limits_22 : decode cX8_limits 22 = .ok (.iaload, 1) := by decide +kernel
theorem dX8_limits_23 : decode cX8_limits 23 = .ok (.istore_n 2, 1) := by decide +kernel
theorem dX8_limits_24 : decode cX8_limits 24 = .ok (.iload_n 2, 1) := by decide +kernel
theorem dX8_limits_25 : decode cX8_limits 25 = .ok (.iload_n 1, 1) := by decide +kernel
theorem dX8_limits_26 : decode cX8_limits 26 = .ok (.if_icmp .ne 6, 3) := by decide +kernel
theorem dX8_limits_29 : decode cX8_limits 29 = .ok (.bipush (-2), 2) := by decide +kernel
theorem dX8_limits_31 : decode cX8_limits 31 = .ok (.ireturn, 1) := by decide +kernel
theorem dX8_limits_32 : decode cX8_limits 32 = .ok (.aload_n 0, 1) := by decide +kernel
theorem dX8_limits_33 : decode cX8_limits 33 = .ok (.invokevirtual 91, 3) := by decide +kernel
theorem dX8_limits_36 : decode cX8_limits 36 = .ok (.aload_n 0, 1) := by decide +kernel
theorem dX8_limits_37 : decode cX8_limits 37 = .ok (.getfield 7, 3) := by decide +kernel
theorem dX8_limits_40 : decode cX8_limits 40 = .ok (.iconst 3, 1) := by decide +kernel
theorem dX8_limits_41 : decode cX8_limits 41 = .ok (.iload_n 1, 1) := by decide +kernel
theorem dX8_limits_42 : decode cX8_limits 42 = .ok (.iastore, 1) := by decide +kernel
theorem dX8_limits_43 : decode cX8_limits 43 = .ok (.iload_n 2, 1) := by decide +kernel
theorem dX8_limits_44 : decode cX8_limits 44 = .ok (.ireturn, 1) := by decide +kernel
theorem dX8_undo_0 : decode cX8_undo 0 = .ok (.aload_n 0, 1) := by decide +kernel
theorem dX8_undo_1 : decode cX8_undo 1 = .ok (.iconst 0, 1) := by decide +kernel
theorem dX8_undo_2 : decode cX8_undo 2 = .ok (.putfield 36, 3) := by decide +kernel
theorem dX8_undo_5 : decode cX8_undo 5 = .ok (.aload_n 0, 1) := by decide +kernel
theorem dX8_undo_6 : decode cX8_undo 6 = .ok (.getfield 114, 3) := by decide +kernel
theorem dX8_undo_9 : decode cX8_undo 9 = .ok (.ifCond .ne 6, 3) := by decide +kernel
theorem dX8_undo_12 : decode cX8_undo 12 = .ok (.bipush (-2), 2) := by decide +kernel
theorem dX8_undo_14 : decode cX8_undo 14 = .ok (.ireturn, 1) := by decide +kernel
theorem dX8_undo_15 : decode cX8_undo 15 = .ok (.aload_n 0, 1) := by decide +kernel
theorem dX8_undo_16 : decode cX8_undo 16 = .ok (.dup, 1) := by decide +kernel
theorem dX8_undo_17 : decode cX8_undo 17 = .ok (.getfield 114, 3) := by decide +kernel
theorem dX8_undo_20 : decode cX8_undo 20 = .ok (.iconst 1, 1) := by decide +kernel
theorem dX8_undo_21 : decode cX8_undo 21 = .ok (.isub, 1) := by decide +kernel
theorem dX8_undo_22 : decode cX8_undo 22 = .ok (.putfield 114, 3) := by decide +kernel
theorem dX8_undo_25 : decode cX8_undo 25 = .ok (.iconst 0, 1) := by decide +kernel
theorem dX8_undo_26 : decode cX8_undo 26 = .ok (.istore_n 1, 1) := by decide +kernel
theorem dX8_undo_27 : decode cX8_undo 27 = .ok (.iload_n 1, 1) := by decide +kernel
theorem dX8_undo_28 : decode cX8_undo 28 = .ok (.bipush 52, 2) := by decide +kernel
theorem dX8_undo_30 : decode cX8_undo 30 = .ok (.if_icmp .ge 29, 3) := by decide +kernel
theorem dX8_undo_33 : decode cX8_undo 33 = .ok (.aload_n 0, 1) := by decide +kernel
theorem dX8_undo_34 : decode cX8_undo 34 = .ok (.getfield 7, 3) := by decide +kernel
theorem dX8_undo_37 : decode cX8_undo 37 = .ok (.iload_n 1, 1) := by decide +kernel
theorem dX8_undo_38 : decode cX8_undo 38 = .ok (.aload_n 0, 1) := by decide +kernel
theorem dX8_undo_39 : decode cX8_undo 39 = .ok (.getfield 16, 3) := by decide +kernel
theorem dX8_undo_42 : decode cX8_undo 42 = .ok (.bipush 52, 2) := by decide +kernel
theorem dX8_undo_44 : decode cX8_undo 44 = .ok (.aload_n 0, 1) := by decide +kernel
theorem dX8_undo_45 : decode cX8_undo 45 = .ok (.getfield 114, 3) := by decide +kernel
theorem dX8_undo_48 : decode cX8_undo 48 = .ok (.imul, 1) := by decide +kernel
theorem dX8_undo_49 : decode cX8_undo 49 = .ok (.iload_n 1, 1) := by decide +kernel
theorem dX8_undo_50 : decode cX8_undo 50 = .ok (.iadd, 1) := by decide +kernel
theorem dX8_undo_51 : decode cX8_undo 51 = .ok (.iaload, 1) := by decide +kernel
theorem dX8_undo_52 : decode cX8_undo 52 = .ok (.iastore, 1) := by decide +kernel
theorem dX8_undo_53 : decode cX8_undo 53 = .ok (.iinc 1 1, 3) := by decide +kernel
theorem dX8_undo_56 : decode cX8_undo 56 = .ok (.goto (-29), 3) := by decide +kernel
theorem dX8_undo_59 : decode cX8_undo 59 = .ok (.aload_n 0, 1) := by decide +kernel
theorem dX8_undo_60 : decode cX8_undo 60 = .ok (.getfield 114, 3) := by decide +kernel
theorem dX8_undo_63 : decode cX8_undo 63 = .ok (.ireturn, 1) := by decide +kernel
theorem dX8_load_0 : decode cX8_load 0 = .ok (.aload_n 0, 1) := by decide +kernel
theorem dX8_load_1 : decode cX8_load 1 = .ok (.getfield 7, 3) := by decide +kernel
theorem dX8_load_4 : decode cX8_load 4 = .ok (.iconst 5, 1) := by decide +kernel
theorem dX8_load_5 : decode cX8_load 5 = .ok (.iaload, 1) := by decide +kernel
theorem dX8_load_6 : decode cX8_load 6 = .ok (.iload_n 1, 1) := by decide +kernel
theorem dX8_load_7 : decode cX8_load 7 = .ok (.invokestatic 94, 3) := by decide +kernel
theorem dX8_load_10 : decode cX8_load 10 = .ok (.ifCond .eq 34, 3) := by decide +kernel
theorem dX8_load_13 : decode cX8_load 13 = .ok (.aload_n 0, 1) := by decide +kernel
theorem dX8_load_14 : decode cX8_load 14 = .ok (.getfield 7, 3) := by decide +kernel
theorem dX8_load_17 : decode cX8_load 17 = .ok (.iconst 4, 1) := by decide +kernel
theorem dX8_load_18 : decode cX8_load 18 = .ok (.iaload, 1) := by decide +kernel
theorem dX8_load_19 : decode cX8_load 19 = .ok (.aload_n 0, 1) := by decide +kernel
theorem dX8_load_20 : decode cX8_load 20 = .ok (.aload_n 0, 1) := by decide +kernel
theorem dX8_load_21 : decode cX8_load 21 = .ok (.getfield 7, 3) := by decide +kernel
theorem dX8_load_24 : decode cX8_load 24 = .ok (.iconst 5, 1) := by decide +kernel
theorem dX8_load_25 : decode cX8_load 25 = .ok (.iaload, 1) := by decide +kernel
theorem dX8_load_26 : decode cX8_load 26 = .ok (.iconst 1, 1) := by decide +kernel
theorem dX8_load_27 : decode cX8_load 27 = .ok (.iload_n 1, 1) := by decide +kernel
theorem dX8_load_28 : decode cX8_load 28 = .ok (.ishl, 1) := by decide +kernel
theorem dX8_load_29 : decode cX8_load 29 = .ok (.iconst (-1), 1) := by decide +kernel
theorem dX8_load_30 : decode cX8_load 30 = .ok (.ixor, 1) := by decide +kernel
theorem dX8_load_31 : decode cX8_load 31 = .ok (.iand, 1) := by decide +kernel
theorem dX8_load_32 : decode cX8_load 32 = .ok (.invokevirtual 104, 3) := by decide +kernel
theorem dX8_load_35 : decode cX8_load 35 = .ok (.iconst (-1), 1) := by decide +kernel
theorem dX8_load_36 : decode cX8_load 36 = .ok (.ixor, 1) := by decide +kernel
theorem dX8_load_37 : decode cX8_load 37 = .ok (.iand, 1) := by decide +kernel
theorem dX8_load_38 : decode cX8_load 38 = .ok (.invokestatic 145, 3) := by decide +kernel
theorem dX8_load_41 : decode cX8_load 41 = .ok (.goto 4, 3) := by decide +kernel
theorem dX8_load_44 : decode cX8_load 44 = .ok (.iconst 0, 1) := by decide +kernel
theorem dX8_load_45 : decode cX8_load 45 = .ok (.ireturn, 1) := by decide +kernel
theorem dX8_link_0 : decode cX8_link 0 = .ok (.aload_n 0, 1) := by decide +kernel
theorem dX8_link_1 : decode cX8_link 1 = .ok (.iconst 0, 1) := by decide +kernel
theorem dX8_link_2 : decode cX8_link 2 = .ok (.putfield 36, 3) := by decide +kernel
theorem dX8_link_5 : decode cX8_link 5 = .ok (.aload_n 0, 1) := by decide +kernel
theorem dX8_link_6 : decode cX8_link 6 = .ok (.iload_n 1, 1) := by decide +kernel
theorem dX8_link_7 : decode cX8_link 7 = .ok (.invokevirtual 139, 3) := by decide +kernel
theorem dX8_link_10 : decode cX8_link 10 = .ok (.ifCond .eq 12, 3) := by decide +kernel
theorem dX8_link_13 : decode cX8_link 13 = .ok (.iload_n 2, 1) := by decide +kernel
theorem dX8_link_14 : decode cX8_link 14 = .ok (.iconst 0, 1) := by decide +kernel
theorem dX8_link_15 : decode cX8_link 15 = .ok (.iconst 5, 1) := by decide +kernel
theorem dX8_link_16 : decode cX8_link 16 = .ok (.invokestatic 40, 3) := by decide +kernel
theorem dX8_link_19 : decode cX8_link 19 = .ok (.ifCond .ne 5, 3) := by decide +kernel
theorem dX8_link_22 : decode cX8_link 22 = .ok (.iconst (-1), 1) := by decide +kernel
theorem dX8_link_23 : decode cX8_link 23 = .ok (.ireturn, 1) := by decide +kernel
theorem dX8_link_24 : decode cX8_link 24 = .ok (.iload_n 2, 1) := by decide +kernel
theorem dX8_link_25 : decode cX8_link 25 = .ok (.tableswitch 88 0 4 #[35, 45, 55, 65, 76], 35) := by decide +kernel
theorem dX8_link_60 : decode cX8_link 60 = .ok (.aload_n 0, 1) := by decide +kernel
theorem dX8_link_61 : decode cX8_link 61 = .ok (.getfield 7, 3) := by decide +kernel
theorem dX8_link_64 : decode cX8_link 64 = .ok (.bipush 16, 2) := by decide +kernel
theorem dX8_link_66 : decode cX8_link 66 = .ok (.iload_n 1, 1) := by decide +kernel
theorem dX8_link_67 : decode cX8_link 67 = .ok (.iadd, 1) := by decide +kernel
theorem dX8_link_68 : decode cX8_link 68 = .ok (.iaload, 1) := by decide +kernel
theorem dX8_link_69 : decode cX8_link 69 = .ok (.ireturn, 1) := by decide +kernel
theorem dX8_link_70 : decode cX8_link 70 = .ok (.aload_n 0, 1) := by decide +kernel
theorem dX8_link_71 : decode cX8_link 71 = .ok (.getfield 7, 3) := by decide +kernel
theorem dX8_link_74 : decode cX8_link 74 = .ok (.bipush 28, 2) := by decide +kernel
theorem dX8_link_76 : decode cX8_link 76 = .ok (.iload_n 1, 1) := by decide +kernel
theorem dX8_link_77 : decode cX8_link 77 = .ok (.iadd, 1) := by decide +kernel
theorem dX8_link_78 : decode cX8_link 78 = .ok (.iaload, 1) := by decide +kernel
theorem dX8_link_79 : decode cX8_link 79 = .ok (.ireturn, 1) := by decide +kernel
theorem dX8_link_80 : decode cX8_link 80 = .ok (.aload_n 0, 1) := by decide +kernel
theorem dX8_link_81 : decode cX8_link 81 = .ok (.getfield 7, 3) := by decide +kernel
theorem dX8_link_84 : decode cX8_link 84 = .ok (.bipush 40, 2) := by decide +kernel
theorem dX8_link_86 : decode cX8_link 86 = .ok (.iload_n 1, 1) := by decide +kernel
theorem dX8_link_87 : decode cX8_link 87 = .ok (.iadd, 1) := by decide +kernel
theorem dX8_link_88 : decode cX8_link 88 = .ok (.iaload, 1) := by decide +kernel
theorem dX8_link_89 : decode cX8_link 89 = .ok (.ireturn, 1) := by decide +kernel
theorem dX8_link_90 : decode cX8_link 90 = .ok (.aload_n 0, 1) := by decide +kernel
theorem dX8_link_91 : decode cX8_link 91 = .ok (.getfield 7, 3) := by decide +kernel
theorem dX8_link_94 : decode cX8_link 94 = .ok (.iconst 5, 1) := by decide +kernel
theorem dX8_link_95 : decode cX8_link 95 = .ok (.iaload, 1) := by decide +kernel
theorem dX8_link_96 : decode cX8_link 96 = .ok (.iload_n 1, 1) := by decide +kernel
theorem dX8_link_97 : decode cX8_link 97 = .ok (.ishr, 1) := by decide +kernel
theorem dX8_link_98 : decode cX8_link 98 = .ok (.iconst 1, 1) := by decide +kernel
theorem dX8_link_99 : decode cX8_link 99 = .ok (.iand, 1) := by decide +kernel
theorem dX8_link_100 : decode cX8_link 100 = .ok (.ireturn, 1) := by decide +kernel
theorem dX8_link_101 : decode cX8_link 101 = .ok (.aload_n 0, 1) := by decide +kernel
theorem dX8_link_102 : decode cX8_link 102 = .ok (.getfield 7, 3) := by decide +kernel
theorem dX8_link_105 : decode cX8_link 105 = .ok (.bipush 6, 2) := by decide +kernel
theorem dX8_link_107 : decode cX8_link 107 = .ok (.iaload, 1) := by decide +kernel
theorem dX8_link_108 : decode cX8_link 108 = .ok (.iload_n 1, 1) := by decide +kernel
theorem dX8_link_109 : decode cX8_link 109 = .ok (.ishr, 1) := by decide +kernel
theorem dX8_link_110 : decode cX8_link 110 = .ok (.iconst 1, 1) := by decide +kernel
theorem dX8_link_111 : decode cX8_link 111 = .ok (.iand, 1) := by decide +kernel
theorem dX8_link_112 : decode cX8_link 112 = .ok (.ireturn, 1) := by decide +kernel
theorem dX8_link_113 : decode cX8_link 113 = .ok (.aload_n 0, 1) := by decide +kernel
theorem dX8_link_114 : decode cX8_link 114 = .ok (.iload_n 1, 1) := by decide +kernel
theorem dX8_link_115 : decode cX8_link 115 = .ok (.invokevirtual 148, 3) := by decide +kernel
theorem dX8_link_118 : decode cX8_link 118 = .ok (.ireturn, 1) := by decide +kernel
theorem dX8_farOf_0 : decode cX8_farOf 0 = .ok (.aload_n 0, 1) := by decide +kernel
theorem dX8_farOf_1 : decode cX8_farOf 1 = .ok (.aload_n 0, 1) := by decide +kernel
theorem dX8_farOf_2 : decode cX8_farOf 2 = .ok (.getfield 7, 3) := by decide +kernel
theorem dX8_farOf_5 : decode cX8_farOf 5 = .ok (.iconst 5, 1) := by decide +kernel
theorem dX8_farOf_6 : decode cX8_farOf 6 = .ok (.iaload, 1) := by decide +kernel
theorem dX8_farOf_7 : decode cX8_farOf 7 = .ok (.invokevirtual 104, 3) := by decide +kernel
theorem dX8_farOf_10 : decode cX8_farOf 10 = .ok (.iload_n 1, 1) := by decide +kernel
theorem dX8_farOf_11 : decode cX8_farOf 11 = .ok (.invokestatic 94, 3) := by decide +kernel
theorem dX8_farOf_14 : decode cX8_farOf 14 = .ok (.ifCond .ne 6, 3) := by decide +kernel
theorem dX8_farOf_17 : decode cX8_farOf 17 = .ok (.bipush (-9), 2) := by decide +kernel
theorem dX8_farOf_19 : decode cX8_farOf 19 = .ok (.ireturn, 1) := by decide +kernel
theorem dX8_farOf_20 : decode cX8_farOf 20 = .ok (.iconst 0, 1) := by decide +kernel
theorem dX8_farOf_21 : decode cX8_farOf 21 = .ok (.istore_n 2, 1) := by decide +kernel
theorem dX8_farOf_22 : decode cX8_farOf 22 = .ok (.iconst 0, 1) := by decide +kernel
theorem dX8_farOf_23 : decode cX8_farOf 23 = .ok (.istore_n 3, 1) := by decide +kernel
theorem dX8_farOf_24 : decode cX8_farOf 24 = .ok (.iload_n 3, 1) := by decide +kernel
theorem dX8_farOf_25 : decode cX8_farOf 25 = .ok (.aload_n 0, 1) := by decide +kernel
theorem dX8_farOf_26 : decode cX8_farOf 26 = .ok (.getfield 7, 3) := by decide +kernel
theorem dX8_farOf_29 : decode cX8_farOf 29 = .ok (.iconst 1, 1) := by decide +kernel
theorem dX8_farOf_30 : decode cX8_farOf 30 = .ok (.iaload, 1) := by decide +kernel
theorem dX8_farOf_31 : decode cX8_farOf 31 = .ok (.if_icmp .ge 61, 3) := by decide +kernel
theorem dX8_farOf_34 : decode cX8_farOf 34 = .ok (.iload_n 2, 1) := by decide +kernel
theorem dX8_farOf_35 : decode cX8_farOf 35 = .ok (.aload_n 0, 1) := by decide +kernel
theorem dX8_farOf_36 : decode cX8_farOf 36 = .ok (.getfield 7, 3) := by decide +kernel
theorem dX8_farOf_39 : decode cX8_farOf 39 = .ok (.iconst 5, 1) := by decide +kernel
theorem dX8_farOf_40 : decode cX8_farOf 40 = .ok (.iaload, 1) := by decide +kernel
theorem dX8_farOf_41 : decode cX8_farOf 41 = .ok (.iload_n 3, 1) := by decide +kernel
theorem dX8_farOf_42 : decode cX8_farOf 42 = .ok (.invokestatic 94, 3) := by decide +kernel
theorem dX8_farOf_45 : decode cX8_farOf 45 = .ok (.ifCond .eq 38, 3) := by decide +kernel
theorem dX8_farOf_48 : decode cX8_farOf 48 = .ok (.aload_n 0, 1) := by decide +kernel
theorem dX8_farOf_49 : decode cX8_farOf 49 = .ok (.aload_n 0, 1) := by decide +kernel
theorem dX8_farOf_50 : decode cX8_farOf 50 = .ok (.getfield 7, 3) := by decide +kernel
theorem dX8_farOf_53 : decode cX8_farOf 53 = .ok (.iconst 5, 1) := by decide +kernel
theorem dX8_farOf_54 : decode cX8_farOf 54 = .ok (.iaload, 1) := by decide +kernel
theorem dX8_farOf_55 : decode cX8_farOf 55 = .ok (.iconst 1, 1) := by decide +kernel
theorem dX8_farOf_56 : decode cX8_farOf 56 = .ok (.iload_n 3, 1) := by decide +kernel
theorem dX8_farOf_57 : decode cX8_farOf 57 = .ok (.ishl, 1) := by decide +kernel
theorem dX8_farOf_58 : decode cX8_farOf 58 = .ok (.iconst (-1), 1) := by decide +kernel
theorem dX8_farOf_59 : decode cX8_farOf 59 = .ok (.ixor, 1) := by decide +kernel
theorem dX8_farOf_60 : decode cX8_farOf 60 = .ok (.iand, 1) := by decide +kernel
theorem dX8_farOf_61 : decode cX8_farOf 61 = .ok (.invokevirtual 104, 3) := by decide +kernel
theorem dX8_farOf_64 : decode cX8_farOf 64 = .ok (.iload_n 1, 1) := by decide +kernel
theorem dX8_farOf_65 : decode cX8_farOf 65 = .ok (.invokestatic 94, 3) := by decide +kernel
theorem dX8_farOf_68 : decode cX8_farOf 68 = .ok (.ifCond .ne 15, 3) := by decide +kernel
theorem dX8_farOf_71 : decode cX8_farOf 71 = .ok (.aload_n 0, 1) := by decide +kernel
theorem dX8_farOf_72 : decode cX8_farOf 72 = .ok (.getfield 7, 3) := by decide +kernel
theorem dX8_farOf_75 : decode cX8_farOf 75 = .ok (.bipush 40, 2) := by decide +kernel
theorem dX8_farOf_77 : decode cX8_farOf 77 = .ok (.iload_n 3, 1) := by decide +kernel
theorem dX8_farOf_78 : decode cX8_farOf 78 = .ok (.iadd, 1) := by decide +kernel
theorem dX8_farOf_79 : decode cX8_farOf 79 = .ok (.iaload, 1) := by decide +kernel
theorem dX8_farOf_80 : decode cX8_farOf 80 = .ok (.goto 4, 3) := by decide +kernel
theorem dX8_farOf_83 : decode cX8_farOf 83 = .ok (.iconst 0, 1) := by decide +kernel
theorem dX8_farOf_84 : decode cX8_farOf 84 = .ok (.iadd, 1) := by decide +kernel
theorem dX8_farOf_85 : decode cX8_farOf 85 = .ok (.istore_n 2, 1) := by decide +kernel
theorem dX8_farOf_86 : decode cX8_farOf 86 = .ok (.iinc 3 1, 3) := by decide +kernel
theorem dX8_farOf_89 : decode cX8_farOf 89 = .ok (.goto (-65), 3) := by decide +kernel
theorem dX8_farOf_92 : decode cX8_farOf 92 = .ok (.iload_n 2, 1) := by decide +kernel
theorem dX8_farOf_93 : decode cX8_farOf 93 = .ok (.ireturn, 1) := by decide +kernel
theorem dX8_linksAt_0 : decode cX8_linksAt 0 = .ok (.iconst 0, 1) := by decide +kernel
theorem dX8_linksAt_1 : decode cX8_linksAt 1 = .ok (.istore_n 2, 1) := by decide +kernel
theorem dX8_linksAt_2 : decode cX8_linksAt 2 = .ok (.iconst 0, 1) := by decide +kernel
theorem dX8_linksAt_3 : decode cX8_linksAt 3 = .ok (.istore_n 3, 1) := by decide +kernel
theorem dX8_linksAt_4 : decode cX8_linksAt 4 = .ok (.iload_n 3, 1) := by decide +kernel
theorem dX8_linksAt_5 : decode cX8_linksAt 5 = .ok (.aload_n 0, 1) := by decide +kernel
theorem dX8_linksAt_6 : decode cX8_linksAt 6 = .ok (.getfield 7, 3) := by decide +kernel
theorem dX8_linksAt_9 : decode cX8_linksAt 9 = .ok (.iconst 1, 1) := by decide +kernel
theorem dX8_linksAt_10 : decode cX8_linksAt 10 = .ok (.iaload, 1) := by decide +kernel
theorem dX8_linksAt_11 : decode cX8_linksAt 11 = .ok (.if_icmp .ge 41, 3) := by decide +kernel
theorem dX8_linksAt_14 : decode cX8_linksAt 14 = .ok (.iload_n 2, 1) := by decide +kernel
theorem dX8_linksAt_15 : decode cX8_linksAt 15 = .ok (.aload_n 0, 1) := by decide +kernel
theorem dX8_linksAt_16 : decode cX8_linksAt 16 = .ok (.getfield 7, 3) := by decide +kernel
theorem dX8_linksAt_19 : decode cX8_linksAt 19 = .ok (.iconst 5, 1) := by decide +kernel
theorem dX8_linksAt_20 : decode cX8_linksAt 20 = .ok (.iaload, 1) := by decide +kernel
theorem dX8_linksAt_21 : decode cX8_linksAt 21 = .ok (.iload_n 3, 1) := by decide +kernel
theorem dX8_linksAt_22 : decode cX8_linksAt 22 = .ok (.invokestatic 94, 3) := by decide +kernel
theorem dX8_linksAt_25 : decode cX8_linksAt 25 = .ok (.ifCond .eq 18, 3) := by decide +kernel
theorem dX8_linksAt_28 : decode cX8_linksAt 28 = .ok (.aload_n 0, 1) := by decide +kernel
theorem dX8_linksAt_29 : decode cX8_linksAt 29 = .ok (.iload_n 3, 1) := by decide +kernel
theorem dX8_linksAt_30 : decode cX8_linksAt 30 = .ok (.iload_n 1, 1) := by decide +kernel
theorem dX8_linksAt_31 : decode cX8_linksAt 31 = .ok (.invokevirtual 98, 3) := by decide +kernel
theorem dX8_linksAt_34 : decode cX8_linksAt 34 = .ok (.bipush (-9), 2) := by decide +kernel
theorem dX8_linksAt_36 : decode cX8_linksAt 36 = .ok (.if_icmp .eq 7, 3) := by decide +kernel
theorem dX8_linksAt_39 : decode cX8_linksAt 39 = .ok (.iconst 1, 1) := by decide +kernel
theorem dX8_linksAt_40 : decode cX8_linksAt 40 = .ok (.goto 4, 3) := by decide +kernel
theorem dX8_linksAt_43 : decode cX8_linksAt 43 = .ok (.iconst 0, 1) := by decide +kernel
theorem dX8_linksAt_44 : decode cX8_linksAt 44 = .ok (.iadd, 1) := by decide +kernel
theorem dX8_linksAt_45 : decode cX8_linksAt 45 = .ok (.istore_n 2, 1) := by decide +kernel
theorem dX8_linksAt_46 : decode cX8_linksAt 46 = .ok (.iinc 3 1, 3) := by decide +kernel
theorem dX8_linksAt_49 : decode cX8_linksAt 49 = .ok (.goto (-45), 3) := by decide +kernel
theorem dX8_linksAt_52 : decode cX8_linksAt 52 = .ok (.iload_n 2, 1) := by decide +kernel
theorem dX8_linksAt_53 : decode cX8_linksAt 53 = .ok (.ireturn, 1) := by decide +kernel
theorem dX8_away_0 : decode cX8_away 0 = .ok (.aload_n 0, 1) := by decide +kernel
theorem dX8_away_1 : decode cX8_away 1 = .ok (.getfield 33, 3) := by decide +kernel
theorem dX8_away_4 : decode cX8_away 4 = .ok (.iload_n 1, 1) := by decide +kernel
theorem dX8_away_5 : decode cX8_away 5 = .ok (.iaload, 1) := by decide +kernel
theorem dX8_away_6 : decode cX8_away 6 = .ok (.ldc 97, 2) := by decide +kernel
theorem dX8_away_8 : decode cX8_away 8 = .ok (.if_icmp .lt 8, 3) := by decide +kernel
theorem dX8_away_11 : decode cX8_away 11 = .ok (.bipush (-9), 2) := by decide +kernel
theorem dX8_away_13 : decode cX8_away 13 = .ok (.goto 28, 3) := by decide +kernel
theorem dX8_away_16 : decode cX8_away 16 = .ok (.iload_n 2, 1) := by decide +kernel
theorem dX8_away_17 : decode cX8_away 17 = .ok (.ifCond .ne 15, 3) := by decide +kernel
theorem dX8_away_20 : decode cX8_away 20 = .ok (.aload_n 0, 1) := by decide +kernel
theorem dX8_away_21 : decode cX8_away 21 = .ok (.getfield 33, 3) := by decide +kernel
theorem dX8_away_24 : decode cX8_away 24 = .ok (.iload_n 1, 1) := by decide +kernel
theorem dX8_away_25 : decode cX8_away 25 = .ok (.iaload, 1) := by decide +kernel
theorem dX8_away_26 : decode cX8_away 26 = .ok (.bipush 16, 2) := by decide +kernel
theorem dX8_away_28 : decode cX8_away 28 = .ok (.idiv, 1) := by decide +kernel
theorem dX8_away_29 : decode cX8_away 29 = .ok (.goto 12, 3) := by decide +kernel
theorem dX8_away_32 : decode cX8_away 32 = .ok (.aload_n 0, 1) := by decide +kernel
theorem dX8_away_33 : decode cX8_away 33 = .ok (.getfield 33, 3) := by decide +kernel
theorem dX8_away_36 : decode cX8_away 36 = .ok (.iload_n 1, 1) := by decide +kernel
theorem dX8_away_37 : decode cX8_away 37 = .ok (.iaload, 1) := by decide +kernel
theorem dX8_away_38 : decode cX8_away 38 = .ok (.bipush 16, 2) := by decide +kernel
theorem dX8_away_40 : decode cX8_away 40 = .ok (.irem, 1) := by decide +kernel
theorem dX8_away_41 : decode cX8_away 41 = .ok (.ireturn, 1) := by decide +kernel
theorem dX8_node_0 : decode cX8_node 0 = .ok (.aload_n 0, 1) := by decide +kernel
theorem dX8_node_1 : decode cX8_node 1 = .ok (.iconst 0, 1) := by decide +kernel
theorem dX8_node_2 : decode cX8_node 2 = .ok (.putfield 36, 3) := by decide +kernel
theorem dX8_node_5 : decode cX8_node 5 = .ok (.aload_n 0, 1) := by decide +kernel
theorem dX8_node_6 : decode cX8_node 6 = .ok (.iload_n 1, 1) := by decide +kernel
theorem dX8_node_7 : decode cX8_node 7 = .ok (.invokevirtual 129, 3) := by decide +kernel
theorem dX8_node_10 : decode cX8_node 10 = .ok (.ifCond .eq 13, 3) := by decide +kernel
theorem dX8_node_13 : decode cX8_node 13 = .ok (.iload_n 2, 1) := by decide +kernel
theorem dX8_node_14 : decode cX8_node 14 = .ok (.iconst 0, 1) := by decide +kernel
theorem dX8_node_15 : decode cX8_node 15 = .ok (.bipush 6, 2) := by decide +kernel
theorem dX8_node_17 : decode cX8_node 17 = .ok (.invokestatic 40, 3) := by decide +kernel
theorem dX8_node_20 : decode cX8_node 20 = .ok (.ifCond .ne 5, 3) := by decide +kernel
theorem dX8_node_23 : decode cX8_node 23 = .ok (.iconst (-1), 1) := by decide +kernel
theorem dX8_node_24 : decode cX8_node 24 = .ok (.ireturn, 1) := by decide +kernel
theorem dX8_node_25 : decode cX8_node 25 = .ok (.aload_n 0, 1) := by decide +kernel
theorem dX8_node_26 : decode cX8_node 26 = .ok (.aload_n 0, 1) := by decide +kernel
theorem dX8_node_27 : decode cX8_node 27 = .ok (.aload_n 0, 1) := by decide +kernel
theorem dX8_node_28 : decode cX8_node 28 = .ok (.getfield 7, 3) := by decide +kernel
theorem dX8_node_31 : decode cX8_node 31 = .ok (.iconst 5, 1) := by decide +kernel
theorem dX8_node_32 : decode cX8_node 32 = .ok (.iaload, 1) := by decide +kernel
theorem dX8_node_33 : decode cX8_node 33 = .ok (.invokevirtual 104, 3) := by decide +kernel
theorem dX8_node_36 : decode cX8_node 36 = .ok (.invokevirtual 107, 3) := by decide +kernel
theorem dX8_node_39 : decode cX8_node 39 = .ok (.iload_n 2, 1) := by decide +kernel
theorem dX8_node_40 : decode cX8_node 40 = .ok (.tableswitch 102 0 6 #[44, 69, 84, 102, 102, 90, 96], 44) := by decide +kernel
theorem dX8_node_84 : decode cX8_node 84 = .ok (.iload_n 1, 1) := by decide +kernel
theorem dX8_node_85 : decode cX8_node 85 = .ok (.aload_n 0, 1) := by decide +kernel
theorem dX8_node_86 : decode cX8_node 86 = .ok (.getfield 7, 3) := by decide +kernel
theorem dX8_node_89 : decode cX8_node 89 = .ok (.iconst 2, 1) := by decide +kernel
theorem dX8_node_90 : decode cX8_node 90 = .ok (.iaload, 1) := by decide +kernel
theorem dX8_node_91 : decode cX8_node 91 = .ok (.if_icmp .ne 7, 3) := by decide +kernel
theorem dX8_node_94 : decode cX8_node 94 = .ok (.iconst 2, 1) := by decide +kernel
theorem dX8_node_95 : decode cX8_node 95 = .ok (.goto 13, 3) := by decide +kernel
theorem dX8_node_98 : decode cX8_node 98 = .ok (.aload_n 0, 1) := by decide +kernel
theorem dX8_node_99 : decode cX8_node 99 = .ok (.getfield 7, 3) := by decide +kernel
theorem dX8_node_102 : decode cX8_node 102 = .ok (.iconst 4, 1) := by decide +kernel
theorem dX8_node_103 : decode cX8_node 103 = .ok (.iaload, 1) := by decide +kernel
theorem dX8_node_104 : decode cX8_node 104 = .ok (.iload_n 1, 1) := by decide +kernel
theorem dX8_node_105 : decode cX8_node 105 = .ok (.ishr, 1) := by decide +kernel
theorem dX8_node_106 : decode cX8_node 106 = .ok (.iconst 1, 1) := by decide +kernel
theorem dX8_node_107 : decode cX8_node 107 = .ok (.iand, 1) := by decide +kernel
theorem dX8_node_108 : decode cX8_node 108 = .ok (.ireturn, 1) := by decide +kernel
theorem dX8_node_109 : decode cX8_node 109 = .ok (.aload_n 0, 1) := by decide +kernel
theorem dX8_node_110 : decode cX8_node 110 = .ok (.aload_n 0, 1) := by decide +kernel
theorem dX8_node_111 : decode cX8_node 111 = .ok (.getfield 7, 3) := by decide +kernel
theorem dX8_node_114 : decode cX8_node 114 = .ok (.iconst 5, 1) := by decide +kernel
theorem dX8_node_115 : decode cX8_node 115 = .ok (.iaload, 1) := by decide +kernel
theorem dX8_node_116 : decode cX8_node 116 = .ok (.invokevirtual 104, 3) := by decide +kernel
theorem dX8_node_119 : decode cX8_node 119 = .ok (.iload_n 1, 1) := by decide +kernel
theorem dX8_node_120 : decode cX8_node 120 = .ok (.ishr, 1) := by decide +kernel
theorem dX8_node_121 : decode cX8_node 121 = .ok (.iconst 1, 1) := by decide +kernel
theorem dX8_node_122 : decode cX8_node 122 = .ok (.iand, 1) := by decide +kernel
theorem dX8_node_123 : decode cX8_node 123 = .ok (.ireturn, 1) := by decide +kernel
theorem dX8_node_124 : decode cX8_node 124 = .ok (.aload_n 0, 1) := by decide +kernel
theorem dX8_node_125 : decode cX8_node 125 = .ok (.iload_n 1, 1) := by decide +kernel
theorem dX8_node_126 : decode cX8_node 126 = .ok (.invokevirtual 151, 3) := by decide +kernel
theorem dX8_node_129 : decode cX8_node 129 = .ok (.ireturn, 1) := by decide +kernel
theorem dX8_node_130 : decode cX8_node 130 = .ok (.aload_n 0, 1) := by decide +kernel
theorem dX8_node_131 : decode cX8_node 131 = .ok (.iload_n 1, 1) := by decide +kernel
theorem dX8_node_132 : decode cX8_node 132 = .ok (.invokevirtual 117, 3) := by decide +kernel
theorem dX8_node_135 : decode cX8_node 135 = .ok (.ireturn, 1) := by decide +kernel
theorem dX8_node_136 : decode cX8_node 136 = .ok (.aload_n 0, 1) := by decide +kernel
theorem dX8_node_137 : decode cX8_node 137 = .ok (.iload_n 1, 1) := by decide +kernel
theorem dX8_node_138 : decode cX8_node 138 = .ok (.invokevirtual 154, 3) := by decide +kernel
theorem dX8_node_141 : decode cX8_node 141 = .ok (.ireturn, 1) := by decide +kernel
theorem dX8_node_142 : decode cX8_node 142 = .ok (.aload_n 0, 1) := by decide +kernel
theorem dX8_node_143 : decode cX8_node 143 = .ok (.iload_n 1, 1) := by decide +kernel
theorem dX8_node_144 : decode cX8_node 144 = .ok (.iload_n 2, 1) := by decide +kernel
theorem dX8_node_145 : decode cX8_node 145 = .ok (.iconst 3, 1) := by decide +kernel
theorem dX8_node_146 : decode cX8_node 146 = .ok (.isub, 1) := by decide +kernel
theorem dX8_node_147 : decode cX8_node 147 = .ok (.invokevirtual 157, 3) := by decide +kernel
theorem dX8_node_150 : decode cX8_node 150 = .ok (.ireturn, 1) := by decide +kernel
theorem dX8_way_0 : decode cX8_way 0 = .ok (.aload_n 0, 1) := by decide +kernel
theorem dX8_way_1 : decode cX8_way 1 = .ok (.iconst 0, 1) := by decide +kernel
theorem dX8_way_2 : decode cX8_way 2 = .ok (.putfield 36, 3) := by decide +kernel
theorem dX8_way_5 : decode cX8_way 5 = .ok (.aload_n 0, 1) := by decide +kernel
theorem dX8_way_6 : decode cX8_way 6 = .ok (.iload_n 1, 1) := by decide +kernel
theorem dX8_way_7 : decode cX8_way 7 = .ok (.invokevirtual 129, 3) := by decide +kernel
theorem dX8_way_10 : decode cX8_way 10 = .ok (.ifCond .eq 7, 3) := by decide +kernel
theorem dX8_way_13 : decode cX8_way 13 = .ok (.iload_n 2, 1) := by decide +kernel
theorem dX8_way_14 : decode cX8_way 14 = .ok (.ifCond .ge 5, 3) := by decide +kernel
theorem dX8_way_17 : decode cX8_way 17 = .ok (.iconst (-1), 1) := by decide +kernel
theorem dX8_way_18 : decode cX8_way 18 = .ok (.ireturn, 1) := by decide +kernel
theorem dX8_way_19 : decode cX8_way 19 = .ok (.aload_n 0, 1) := by decide +kernel
theorem dX8_way_20 : decode cX8_way 20 = .ok (.aload_n 0, 1) := by decide +kernel
theorem dX8_way_21 : decode cX8_way 21 = .ok (.aload_n 0, 1) := by decide +kernel
theorem dX8_way_22 : decode cX8_way 22 = .ok (.getfield 7, 3) := by decide +kernel
theorem dX8_way_25 : decode cX8_way 25 = .ok (.iconst 5, 1) := by decide +kernel
theorem dX8_way_26 : decode cX8_way 26 = .ok (.iaload, 1) := by decide +kernel
theorem dX8_way_27 : decode cX8_way 27 = .ok (.invokevirtual 104, 3) := by decide +kernel
theorem dX8_way_30 : decode cX8_way 30 = .ok (.invokevirtual 107, 3) := by decide +kernel
theorem dX8_way_33 : decode cX8_way 33 = .ok (.aload_n 0, 1) := by decide +kernel
theorem dX8_way_34 : decode cX8_way 34 = .ok (.getfield 33, 3) := by decide +kernel
theorem dX8_way_37 : decode cX8_way 37 = .ok (.iload_n 1, 1) := by decide +kernel
theorem dX8_way_38 : decode cX8_way 38 = .ok (.iaload, 1) := by decide +kernel
theorem dX8_way_39 : decode cX8_way 39 = .ok (.ldc 97, 2) := by decide +kernel
theorem dX8_way_41 : decode cX8_way 41 = .ok (.if_icmp .ge 16, 3) := by decide +kernel
theorem dX8_way_44 : decode cX8_way 44 = .ok (.iload_n 2, 1) := by decide +kernel
theorem dX8_way_45 : decode cX8_way 45 = .ok (.aload_n 0, 1) := by decide +kernel
theorem dX8_way_46 : decode cX8_way 46 = .ok (.getfield 33, 3) := by decide +kernel
theorem dX8_way_49 : decode cX8_way 49 = .ok (.iload_n 1, 1) := by decide +kernel
theorem dX8_way_50 : decode cX8_way 50 = .ok (.iaload, 1) := by decide +kernel
theorem dX8_way_51 : decode cX8_way 51 = .ok (.bipush 16, 2) := by decide +kernel
theorem dX8_way_53 : decode cX8_way 53 = .ok (.irem, 1) := by decide +kernel
theorem dX8_way_54 : decode cX8_way 54 = .ok (.if_icmp .lt 6, 3) := by decide +kernel
theorem dX8_way_57 : decode cX8_way 57 = .ok (.bipush (-9), 2) := by decide +kernel
theorem dX8_way_59 : decode cX8_way 59 = .ok (.ireturn, 1) := by decide +kernel
theorem dX8_way_60 : decode cX8_way 60 = .ok (.iload_n 1, 1) := by decide +kernel
theorem dX8_way_61 : decode cX8_way 61 = .ok (.istore_n 3, 1) := by decide +kernel
theorem dX8_way_62 : decode cX8_way 62 = .ok (.iconst 0, 1) := by decide +kernel
theorem dX8_way_63 : decode cX8_way 63 = .ok (.istore 4, 2) := by decide +kernel
theorem dX8_way_65 : decode cX8_way 65 = .ok (.iload 4, 2) := by decide +kernel
theorem dX8_way_67 : decode cX8_way 67 = .ok (.iload_n 2, 1) := by decide +kernel
theorem dX8_way_68 : decode cX8_way 68 = .ok (.if_icmp .ge 20, 3) := by decide +kernel
theorem dX8_way_71 : decode cX8_way 71 = .ok (.aload_n 0, 1) := by decide +kernel
theorem dX8_way_72 : decode cX8_way 72 = .ok (.aload_n 0, 1) := by decide +kernel
theorem dX8_way_73 : decode cX8_way 73 = .ok (.iload_n 3, 1) := by decide +kernel
theorem dX8_way_74 : decode cX8_way 74 = .ok (.invokevirtual 101, 3) := by decide +kernel
theorem dX8_way_77 : decode cX8_way 77 = .ok (.iload_n 3, 1) := by decide +kernel
theorem dX8_way_78 : decode cX8_way 78 = .ok (.invokevirtual 98, 3) := by decide +kernel
theorem dX8_way_81 : decode cX8_way 81 = .ok (.istore_n 3, 1) := by decide +kernel
theorem dX8_way_82 : decode cX8_way 82 = .ok (.iinc 4 1, 3) := by decide +kernel
theorem dX8_way_85 : decode cX8_way 85 = .ok (.goto (-20), 3) := by decide +kernel
theorem dX8_way_88 : decode cX8_way 88 = .ok (.aload_n 0, 1) := by decide +kernel
theorem dX8_way_89 : decode cX8_way 89 = .ok (.iload_n 3, 1) := by decide +kernel
theorem dX8_way_90 : decode cX8_way 90 = .ok (.invokevirtual 101, 3) := by decide +kernel
theorem dX8_way_93 : decode cX8_way 93 = .ok (.ireturn, 1) := by decide +kernel
theorem dX8_least_0 : decode cX8_least 0 = .ok (.iconst 0, 1) := by decide +kernel
theorem dX8_least_1 : decode cX8_least 1 = .ok (.istore_n 1, 1) := by decide +kernel
theorem dX8_least_2 : decode cX8_least 2 = .ok (.aload_n 0, 1) := by decide +kernel
theorem dX8_least_3 : decode cX8_least 3 = .ok (.ldc 97, 2) := by decide +kernel
theorem dX8_least_5 : decode cX8_least 5 = .ok (.putfield 159, 3) := by decide +kernel
theorem dX8_least_8 : decode cX8_least 8 = .ok (.iconst 0, 1) := by decide +kernel
theorem dX8_least_9 : decode cX8_least 9 = .ok (.istore_n 2, 1) := by decide +kernel
theorem dX8_least_10 : decode cX8_least 10 = .ok (.iload_n 2, 1) := by decide +kernel
theorem dX8_least_11 : decode cX8_least 11 = .ok (.iconst 1, 1) := by decide +kernel
theorem dX8_least_12 : decode cX8_least 12 = .ok (.aload_n 0, 1) := by decide +kernel
theorem dX8_least_13 : decode cX8_least 13 = .ok (.getfield 7, 3) := by decide +kernel
theorem dX8_least_16 : decode cX8_least 16 = .ok (.iconst 1, 1) := by decide +kernel
theorem dX8_least_17 : decode cX8_least 17 = .ok (.iaload, 1) := by decide +kernel
theorem dX8_least_18 : decode cX8_least 18 = .ok (.ishl, 1) := by decide +kernel
theorem dX8_least_19 : decode cX8_least 19 = .ok (.if_icmp .ge 59, 3) := by decide +kernel
theorem dX8_least_22 : decode cX8_least 22 = .ok (.aload_n 0, 1) := by decide +kernel
theorem dX8_least_23 : decode cX8_least 23 = .ok (.iload_n 2, 1) := by decide +kernel
theorem dX8_least_24 : decode cX8_least 24 = .ok (.invokevirtual 123, 3) := by decide +kernel
theorem dX8_least_27 : decode cX8_least 27 = .ok (.istore_n 3, 1) := by decide +kernel
theorem dX8_least_28 : decode cX8_least 28 = .ok (.iload_n 2, 1) := by decide +kernel
theorem dX8_least_29 : decode cX8_least 29 = .ok (.aload_n 0, 1) := by decide +kernel
theorem dX8_least_30 : decode cX8_least 30 = .ok (.getfield 7, 3) := by decide +kernel
theorem dX8_least_33 : decode cX8_least 33 = .ok (.bipush 6, 2) := by decide +kernel
theorem dX8_least_35 : decode cX8_least 35 = .ok (.iaload, 1) := by decide +kernel
theorem dX8_least_36 : decode cX8_least 36 = .ok (.iand, 1) := by decide +kernel
theorem dX8_least_37 : decode cX8_least 37 = .ok (.ifCond .ne 35, 3) := by decide +kernel
theorem dX8_least_40 : decode cX8_least 40 = .ok (.iload_n 3, 1) := by decide +kernel
theorem dX8_least_41 : decode cX8_least 41 = .ok (.aload_n 0, 1) := by decide +kernel
theorem dX8_least_42 : decode cX8_least 42 = .ok (.getfield 159, 3) := by decide +kernel
theorem dX8_least_45 : decode cX8_least 45 = .ok (.if_icmp .ge 27, 3) := by decide +kernel
theorem dX8_least_48 : decode cX8_least 48 = .ok (.aload_n 0, 1) := by decide +kernel
theorem dX8_least_49 : decode cX8_least 49 = .ok (.getfield 7, 3) := by decide +kernel
theorem dX8_least_52 : decode cX8_least 52 = .ok (.iconst 4, 1) := by decide +kernel
theorem dX8_least_53 : decode cX8_least 53 = .ok (.iaload, 1) := by decide +kernel
theorem dX8_least_54 : decode cX8_least 54 = .ok (.aload_n 0, 1) := by decide +kernel
theorem dX8_least_55 : decode cX8_least 55 = .ok (.iload_n 2, 1) := by decide +kernel
theorem dX8_least_56 : decode cX8_least 56 = .ok (.invokevirtual 104, 3) := by decide +kernel
theorem dX8_least_59 : decode cX8_least 59 = .ok (.iconst (-1), 1) := by decide +kernel
theorem dX8_least_60 : decode cX8_least 60 = .ok (.ixor, 1) := by decide +kernel
theorem dX8_least_61 : decode cX8_least 61 = .ok (.iand, 1) := by decide +kernel
theorem dX8_least_62 : decode cX8_least 62 = .ok (.ifCond .ne 10, 3) := by decide +kernel
theorem dX8_least_65 : decode cX8_least 65 = .ok (.iload_n 2, 1) := by decide +kernel
theorem dX8_least_66 : decode cX8_least 66 = .ok (.istore_n 1, 1) := by decide +kernel
theorem dX8_least_67 : decode cX8_least 67 = .ok (.aload_n 0, 1) := by decide +kernel
theorem dX8_least_68 : decode cX8_least 68 = .ok (.iload_n 3, 1) := by decide +kernel
theorem dX8_least_69 : decode cX8_least 69 = .ok (.putfield 159, 3) := by decide +kernel
theorem dX8_least_72 : decode cX8_least 72 = .ok (.iinc 2 1, 3) := by decide +kernel
theorem dX8_least_75 : decode cX8_least 75 = .ok (.goto (-65), 3) := by decide +kernel
theorem dX8_least_78 : decode cX8_least 78 = .ok (.iload_n 1, 1) := by decide +kernel
theorem dX8_least_79 : decode cX8_least 79 = .ok (.ireturn, 1) := by decide +kernel
theorem dX8_busiest_0 : decode cX8_busiest 0 = .ok (.bipush (-9), 2) := by decide +kernel
theorem dX8_busiest_2 : decode cX8_busiest 2 = .ok (.istore_n 1, 1) := by decide +kernel
theorem dX8_busiest_3 : decode cX8_busiest 3 = .ok (.iconst 0, 1) := by decide +kernel
theorem dX8_busiest_4 : decode cX8_busiest 4 = .ok (.istore_n 2, 1) := by decide +kernel
theorem dX8_busiest_5 : decode cX8_busiest 5 = .ok (.iload_n 2, 1) := by decide +kernel
theorem dX8_busiest_6 : decode cX8_busiest 6 = .ok (.aload_n 0, 1) := by decide +kernel
theorem dX8_busiest_7 : decode cX8_busiest 7 = .ok (.getfield 7, 3) := by decide +kernel
theorem dX8_busiest_10 : decode cX8_busiest 10 = .ok (.iconst 1, 1) := by decide +kernel
theorem dX8_busiest_11 : decode cX8_busiest 11 = .ok (.iaload, 1) := by decide +kernel
theorem dX8_busiest_12 : decode cX8_busiest 12 = .ok (.if_icmp .ge 47, 3) := by decide +kernel
theorem dX8_busiest_15 : decode cX8_busiest 15 = .ok (.aload_n 0, 1) := by decide +kernel
theorem dX8_busiest_16 : decode cX8_busiest 16 = .ok (.getfield 7, 3) := by decide +kernel
theorem dX8_busiest_19 : decode cX8_busiest 19 = .ok (.iconst 5, 1) := by decide +kernel
theorem dX8_busiest_20 : decode cX8_busiest 20 = .ok (.iaload, 1) := by decide +kernel
theorem dX8_busiest_21 : decode cX8_busiest 21 = .ok (.iload_n 2, 1) := by decide +kernel
theorem dX8_busiest_22 : decode cX8_busiest 22 = .ok (.invokestatic 94, 3) := by decide +kernel
theorem dX8_busiest_25 : decode cX8_busiest 25 = .ok (.ifCond .eq 26, 3) := by decide +kernel
theorem dX8_busiest_28 : decode cX8_busiest 28 = .ok (.iload_n 1, 1) := by decide +kernel
theorem dX8_busiest_29 : decode cX8_busiest 29 = .ok (.bipush (-9), 2) := by decide +kernel
theorem dX8_busiest_31 : decode cX8_busiest 31 = .ok (.if_icmp .eq 16, 3) := by decide +kernel
theorem dX8_busiest_34 : decode cX8_busiest 34 = .ok (.aload_n 0, 1) := by decide +kernel
theorem dX8_busiest_35 : decode cX8_busiest 35 = .ok (.iload_n 2, 1) := by decide +kernel
theorem dX8_busiest_36 : decode cX8_busiest 36 = .ok (.invokevirtual 148, 3) := by decide +kernel
theorem dX8_busiest_39 : decode cX8_busiest 39 = .ok (.aload_n 0, 1) := by decide +kernel
theorem dX8_busiest_40 : decode cX8_busiest 40 = .ok (.iload_n 1, 1) := by decide +kernel
theorem dX8_busiest_41 : decode cX8_busiest 41 = .ok (.invokevirtual 148, 3) := by decide +kernel
theorem dX8_busiest_44 : decode cX8_busiest 44 = .ok (.if_icmp .le 7, 3) := by decide +kernel
theorem dX8_busiest_47 : decode cX8_busiest 47 = .ok (.iload_n 2, 1) := by decide +kernel
theorem dX8_busiest_48 : decode cX8_busiest 48 = .ok (.goto 4, 3) := by decide +kernel
theorem dX8_busiest_51 : decode cX8_busiest 51 = .ok (.iload_n 1, 1) := by decide +kernel
theorem dX8_busiest_52 : decode cX8_busiest 52 = .ok (.istore_n 1, 1) := by decide +kernel
theorem dX8_busiest_53 : decode cX8_busiest 53 = .ok (.iinc 2 1, 3) := by decide +kernel
theorem dX8_busiest_56 : decode cX8_busiest 56 = .ok (.goto (-51), 3) := by decide +kernel
theorem dX8_busiest_59 : decode cX8_busiest 59 = .ok (.iload_n 1, 1) := by decide +kernel
theorem dX8_busiest_60 : decode cX8_busiest 60 = .ok (.ireturn, 1) := by decide +kernel
theorem dX8_needed_0 : decode cX8_needed 0 = .ok (.iconst 1, 1) := by decide +kernel
theorem dX8_needed_1 : decode cX8_needed 1 = .ok (.aload_n 0, 1) := by decide +kernel
theorem dX8_needed_2 : decode cX8_needed 2 = .ok (.getfield 7, 3) := by decide +kernel
theorem dX8_needed_5 : decode cX8_needed 5 = .ok (.iconst 1, 1) := by decide +kernel
theorem dX8_needed_6 : decode cX8_needed 6 = .ok (.iaload, 1) := by decide +kernel
theorem dX8_needed_7 : decode cX8_needed 7 = .ok (.ishl, 1) := by decide +kernel
theorem dX8_needed_8 : decode cX8_needed 8 = .ok (.iconst 1, 1) := by decide +kernel
theorem dX8_needed_9 : decode cX8_needed 9 = .ok (.isub, 1) := by decide +kernel
theorem dX8_needed_10 : decode cX8_needed 10 = .ok (.aload_n 0, 1) := by decide +kernel
theorem dX8_needed_11 : decode cX8_needed 11 = .ok (.getfield 7, 3) := by decide +kernel
theorem dX8_needed_14 : decode cX8_needed 14 = .ok (.bipush 6, 2) := by decide +kernel
theorem dX8_needed_16 : decode cX8_needed 16 = .ok (.iaload, 1) := by decide +kernel
theorem dX8_needed_17 : decode cX8_needed 17 = .ok (.iconst (-1), 1) := by decide +kernel
theorem dX8_needed_18 : decode cX8_needed 18 = .ok (.ixor, 1) := by decide +kernel
theorem dX8_needed_19 : decode cX8_needed 19 = .ok (.iand, 1) := by decide +kernel
theorem dX8_needed_20 : decode cX8_needed 20 = .ok (.istore_n 1, 1) := by decide +kernel
theorem dX8_needed_21 : decode cX8_needed 21 = .ok (.iconst 0, 1) := by decide +kernel
theorem dX8_needed_22 : decode cX8_needed 22 = .ok (.istore_n 2, 1) := by decide +kernel
theorem dX8_needed_23 : decode cX8_needed 23 = .ok (.iconst 0, 1) := by decide +kernel
theorem dX8_needed_24 : decode cX8_needed 24 = .ok (.istore_n 3, 1) := by decide +kernel
theorem dX8_needed_25 : decode cX8_needed 25 = .ok (.iload_n 3, 1) := by decide +kernel
theorem dX8_needed_26 : decode cX8_needed 26 = .ok (.aload_n 0, 1) := by decide +kernel
theorem dX8_needed_27 : decode cX8_needed 27 = .ok (.getfield 7, 3) := by decide +kernel
theorem dX8_needed_30 : decode cX8_needed 30 = .ok (.iconst 1, 1) := by decide +kernel
theorem dX8_needed_31 : decode cX8_needed 31 = .ok (.iaload, 1) := by decide +kernel
theorem dX8_needed_32 : decode cX8_needed 32 = .ok (.if_icmp .ge 55, 3) := by decide +kernel
theorem dX8_needed_35 : decode cX8_needed 35 = .ok (.iload_n 2, 1) := by decide +kernel
theorem dX8_needed_36 : decode cX8_needed 36 = .ok (.aload_n 0, 1) := by decide +kernel
theorem dX8_needed_37 : decode cX8_needed 37 = .ok (.getfield 7, 3) := by decide +kernel
theorem dX8_needed_40 : decode cX8_needed 40 = .ok (.iconst 5, 1) := by decide +kernel
theorem dX8_needed_41 : decode cX8_needed 41 = .ok (.iaload, 1) := by decide +kernel
theorem dX8_needed_42 : decode cX8_needed 42 = .ok (.iload_n 3, 1) := by decide +kernel
theorem dX8_needed_43 : decode cX8_needed 43 = .ok (.invokestatic 94, 3) := by decide +kernel
theorem dX8_needed_46 : decode cX8_needed 46 = .ok (.ifCond .eq 32, 3) := by decide +kernel
theorem dX8_needed_49 : decode cX8_needed 49 = .ok (.aload_n 0, 1) := by decide +kernel
theorem dX8_needed_50 : decode cX8_needed 50 = .ok (.getfield 7, 3) := by decide +kernel
theorem dX8_needed_53 : decode cX8_needed 53 = .ok (.iconst 4, 1) := by decide +kernel
theorem dX8_needed_54 : decode cX8_needed 54 = .ok (.iaload, 1) := by decide +kernel
theorem dX8_needed_55 : decode cX8_needed 55 = .ok (.aload_n 0, 1) := by decide +kernel
theorem dX8_needed_56 : decode cX8_needed 56 = .ok (.iload_n 1, 1) := by decide +kernel
theorem dX8_needed_57 : decode cX8_needed 57 = .ok (.iconst 1, 1) := by decide +kernel
theorem dX8_needed_58 : decode cX8_needed 58 = .ok (.iload_n 3, 1) := by decide +kernel
theorem dX8_needed_59 : decode cX8_needed 59 = .ok (.ishl, 1) := by decide +kernel
theorem dX8_needed_60 : decode cX8_needed 60 = .ok (.iconst (-1), 1) := by decide +kernel
theorem dX8_needed_61 : decode cX8_needed 61 = .ok (.ixor, 1) := by decide +kernel
theorem dX8_needed_62 : decode cX8_needed 62 = .ok (.iand, 1) := by decide +kernel
theorem dX8_needed_63 : decode cX8_needed 63 = .ok (.invokevirtual 104, 3) := by decide +kernel
theorem dX8_needed_66 : decode cX8_needed 66 = .ok (.iconst (-1), 1) := by decide +kernel
theorem dX8_needed_67 : decode cX8_needed 67 = .ok (.ixor, 1) := by decide +kernel
theorem dX8_needed_68 : decode cX8_needed 68 = .ok (.iand, 1) := by decide +kernel
theorem dX8_needed_69 : decode cX8_needed 69 = .ok (.ifCond .eq 9, 3) := by decide +kernel
theorem dX8_needed_72 : decode cX8_needed 72 = .ok (.iconst 1, 1) := by decide +kernel
theorem dX8_needed_73 : decode cX8_needed 73 = .ok (.iload_n 3, 1) := by decide +kernel
theorem dX8_needed_74 : decode cX8_needed 74 = .ok (.ishl, 1) := by decide +kernel
theorem dX8_needed_75 : decode cX8_needed 75 = .ok (.goto 4, 3) := by decide +kernel
theorem dX8_needed_78 : decode cX8_needed 78 = .ok (.iconst 0, 1) := by decide +kernel
theorem dX8_needed_79 : decode cX8_needed 79 = .ok (.ior, 1) := by decide +kernel
theorem dX8_needed_80 : decode cX8_needed 80 = .ok (.istore_n 2, 1) := by decide +kernel
theorem dX8_needed_81 : decode cX8_needed 81 = .ok (.iinc 3 1, 3) := by decide +kernel
theorem dX8_needed_84 : decode cX8_needed 84 = .ok (.goto (-59), 3) := by decide +kernel
theorem dX8_needed_87 : decode cX8_needed 87 = .ok (.iload_n 2, 1) := by decide +kernel
theorem dX8_needed_88 : decode cX8_needed 88 = .ok (.ireturn, 1) := by decide +kernel
theorem dX8_tree_0 : decode cX8_tree 0 = .ok (.aload_n 0, 1) := by decide +kernel
theorem dX8_tree_1 : decode cX8_tree 1 = .ok (.iconst 0, 1) := by decide +kernel
theorem dX8_tree_2 : decode cX8_tree 2 = .ok (.putfield 36, 3) := by decide +kernel
theorem dX8_tree_5 : decode cX8_tree 5 = .ok (.iload_n 1, 1) := by decide +kernel
theorem dX8_tree_6 : decode cX8_tree 6 = .ok (.tableswitch 94 0 6 #[42, 53, 62, 72, 77, 84, 89], 42) := by decide +kernel
theorem dX8_tree_48 : decode cX8_tree 48 = .ok (.aload_n 0, 1) := by decide +kernel
theorem dX8_tree_49 : decode cX8_tree 49 = .ok (.aload_n 0, 1) := by decide +kernel
theorem dX8_tree_50 : decode cX8_tree 50 = .ok (.getfield 7, 3) := by decide +kernel
theorem dX8_tree_53 : decode cX8_tree 53 = .ok (.iconst 5, 1) := by decide +kernel
theorem dX8_tree_54 : decode cX8_tree 54 = .ok (.iaload, 1) := by decide +kernel
theorem dX8_tree_55 : decode cX8_tree 55 = .ok (.invokevirtual 123, 3) := by decide +kernel
theorem dX8_tree_58 : decode cX8_tree 58 = .ok (.ireturn, 1) := by decide +kernel
theorem dX8_tree_59 : decode cX8_tree 59 = .ok (.aload_n 0, 1) := by decide +kernel
theorem dX8_tree_60 : decode cX8_tree 60 = .ok (.aload_n 0, 1) := by decide +kernel
theorem dX8_tree_61 : decode cX8_tree 61 = .ok (.invokevirtual 120, 3) := by decide +kernel
theorem dX8_tree_64 : decode cX8_tree 64 = .ok (.invokevirtual 123, 3) := by decide +kernel
theorem dX8_tree_67 : decode cX8_tree 67 = .ok (.ireturn, 1) := by decide +kernel
theorem dX8_tree_68 : decode cX8_tree 68 = .ok (.aload_n 0, 1) := by decide +kernel
theorem dX8_tree_69 : decode cX8_tree 69 = .ok (.invokevirtual 162, 3) := by decide +kernel
theorem dX8_tree_72 : decode cX8_tree 72 = .ok (.pop, 1) := by decide +kernel
theorem dX8_tree_73 : decode cX8_tree 73 = .ok (.aload_n 0, 1) := by decide +kernel
theorem dX8_tree_74 : decode cX8_tree 74 = .ok (.getfield 159, 3) := by decide +kernel
theorem dX8_tree_77 : decode cX8_tree 77 = .ok (.ireturn, 1) := by decide +kernel
theorem dX8_tree_78 : decode cX8_tree 78 = .ok (.aload_n 0, 1) := by decide +kernel
theorem dX8_tree_79 : decode cX8_tree 79 = .ok (.invokevirtual 162, 3) := by decide +kernel
theorem dX8_tree_82 : decode cX8_tree 82 = .ok (.ireturn, 1) := by decide +kernel
theorem dX8_tree_83 : decode cX8_tree 83 = .ok (.aload_n 0, 1) := by decide +kernel
theorem dX8_tree_84 : decode cX8_tree 84 = .ok (.getfield 7, 3) := by decide +kernel
theorem dX8_tree_87 : decode cX8_tree 87 = .ok (.iconst 5, 1) := by decide +kernel
theorem dX8_tree_88 : decode cX8_tree 88 = .ok (.iaload, 1) := by decide +kernel
theorem dX8_tree_89 : decode cX8_tree 89 = .ok (.ireturn, 1) := by decide +kernel
theorem dX8_tree_90 : decode cX8_tree 90 = .ok (.aload_n 0, 1) := by decide +kernel
theorem dX8_tree_91 : decode cX8_tree 91 = .ok (.invokevirtual 165, 3) := by decide +kernel
theorem dX8_tree_94 : decode cX8_tree 94 = .ok (.ireturn, 1) := by decide +kernel
theorem dX8_tree_95 : decode cX8_tree 95 = .ok (.aload_n 0, 1) := by decide +kernel
theorem dX8_tree_96 : decode cX8_tree 96 = .ok (.invokevirtual 168, 3) := by decide +kernel
theorem dX8_tree_99 : decode cX8_tree 99 = .ok (.ireturn, 1) := by decide +kernel
theorem dX8_tree_100 : decode cX8_tree 100 = .ok (.iconst (-1), 1) := by decide +kernel
theorem dX8_tree_101 : decode cX8_tree 101 = .ok (.ireturn, 1) := by decide +kernel
theorem dX8_sees_0 : decode cX8_sees 0 = .ok (.aload_n 0, 1) := by decide +kernel
theorem dX8_sees_1 : decode cX8_sees 1 = .ok (.iconst 0, 1) := by decide +kernel
theorem dX8_sees_2 : decode cX8_sees 2 = .ok (.putfield 36, 3) := by decide +kernel
theorem dX8_sees_5 : decode cX8_sees 5 = .ok (.iload_n 1, 1) := by decide +kernel
theorem dX8_sees_6 : decode cX8_sees 6 = .ok (.iconst 0, 1) := by decide +kernel
theorem dX8_sees_7 : decode cX8_sees 7 = .ok (.iconst 1, 1) := by decide +kernel
theorem dX8_sees_8 : decode cX8_sees 8 = .ok (.invokestatic 40, 3) := by decide +kernel
theorem dX8_sees_11 : decode cX8_sees 11 = .ok (.ifCond .eq 19, 3) := by decide +kernel
theorem dX8_sees_14 : decode cX8_sees 14 = .ok (.iload_n 2, 1) := by decide +kernel
theorem dX8_sees_15 : decode cX8_sees 15 = .ok (.bipush (-9), 2) := by decide +kernel
theorem dX8_sees_17 : decode cX8_sees 17 = .ok (.if_icmp .eq 15, 3) := by decide +kernel
theorem dX8_sees_20 : decode cX8_sees 20 = .ok (.iload_n 2, 1) := by decide +kernel
theorem dX8_sees_21 : decode cX8_sees 21 = .ok (.iconst 0, 1) := by decide +kernel
theorem dX8_sees_22 : decode cX8_sees 22 = .ok (.bipush 99, 2) := by decide +kernel
theorem dX8_sees_24 : decode cX8_sees 24 = .ok (.invokestatic 40, 3) := by decide +kernel
theorem dX8_sees_27 : decode cX8_sees 27 = .ok (.ifCond .ne 5, 3) := by decide +kernel
theorem dX8_sees_30 : decode cX8_sees 30 = .ok (.iconst (-1), 1) := by decide +kernel
theorem dX8_sees_31 : decode cX8_sees 31 = .ok (.ireturn, 1) := by decide +kernel
theorem dX8_sees_32 : decode cX8_sees 32 = .ok (.aload_n 0, 1) := by decide +kernel
theorem dX8_sees_33 : decode cX8_sees 33 = .ok (.getfield 171, 3) := by decide +kernel
theorem dX8_sees_36 : decode cX8_sees 36 = .ok (.bipush 6, 2) := by decide +kernel
theorem dX8_sees_38 : decode cX8_sees 38 = .ok (.if_icmp .ne 6, 3) := by decide +kernel
theorem dX8_sees_41 : decode cX8_sees 41 = .ok (.bipush (-3), 2) := by decide +kernel
theorem dX8_sees_43 : decode cX8_sees 43 = .ok (.ireturn, 1) := by decide +kernel
theorem dX8_sees_44 : decode cX8_sees 44 = .ok (.aload_n 0, 1) := by decide +kernel
theorem dX8_sees_45 : decode cX8_sees 45 = .ok (.getfield 26, 3) := by decide +kernel
theorem dX8_sees_48 : decode cX8_sees 48 = .ok (.iconst 2, 1) := by decide +kernel
theorem dX8_sees_49 : decode cX8_sees 49 = .ok (.aload_n 0, 1) := by decide +kernel
theorem dX8_sees_50 : decode cX8_sees 50 = .ok (.getfield 171, 3) := by decide +kernel
theorem dX8_sees_53 : decode cX8_sees 53 = .ok (.imul, 1) := by decide +kernel
theorem dX8_sees_54 : decode cX8_sees 54 = .ok (.iload_n 1, 1) := by decide +kernel
theorem dX8_sees_55 : decode cX8_sees 55 = .ok (.iastore, 1) := by decide +kernel
theorem dX8_sees_56 : decode cX8_sees 56 = .ok (.aload_n 0, 1) := by decide +kernel
theorem dX8_sees_57 : decode cX8_sees 57 = .ok (.getfield 26, 3) := by decide +kernel
theorem dX8_sees_60 : decode cX8_sees 60 = .ok (.iconst 2, 1) := by decide +kernel
theorem dX8_sees_61 : decode cX8_sees 61 = .ok (.aload_n 0, 1) := by decide +kernel
theorem dX8_sees_62 : decode cX8_sees 62 = .ok (.getfield 171, 3) := by decide +kernel
theorem dX8_sees_65 : decode cX8_sees 65 = .ok (.imul, 1) := by decide +kernel
theorem dX8_sees_66 : decode cX8_sees 66 = .ok (.iconst 1, 1) := by decide +kernel
theorem dX8_sees_67 : decode cX8_sees 67 = .ok (.iadd, 1) := by decide +kernel
theorem dX8_sees_68 : decode cX8_sees 68 = .ok (.iload_n 2, 1) := by decide +kernel
theorem dX8_sees_69 : decode cX8_sees 69 = .ok (.iastore, 1) := by decide +kernel
theorem dX8_sees_70 : decode cX8_sees 70 = .ok (.aload_n 0, 1) := by decide +kernel
theorem dX8_sees_71 : decode cX8_sees 71 = .ok (.dup, 1) := by decide +kernel
theorem dX8_sees_72 : decode cX8_sees 72 = .ok (.getfield 171, 3) := by decide +kernel
theorem dX8_sees_75 : decode cX8_sees 75 = .ok (.iconst 1, 1) := by decide +kernel
theorem dX8_sees_76 : decode cX8_sees 76 = .ok (.iadd, 1) := by decide +kernel
theorem dX8_sees_77 : decode cX8_sees 77 = .ok (.putfield 171, 3) := by decide +kernel
theorem dX8_sees_80 : decode cX8_sees 80 = .ok (.aload_n 0, 1) := by decide +kernel
theorem dX8_sees_81 : decode cX8_sees 81 = .ok (.getfield 171, 3) := by decide +kernel
theorem dX8_sees_84 : decode cX8_sees 84 = .ok (.ireturn, 1) := by decide +kernel
theorem dX8_forget_0 : decode cX8_forget 0 = .ok (.aload_n 0, 1) := by decide +kernel
theorem dX8_forget_1 : decode cX8_forget 1 = .ok (.iconst 0, 1) := by decide +kernel
theorem dX8_forget_2 : decode cX8_forget 2 = .ok (.putfield 36, 3) := by decide +kernel
theorem dX8_forget_5 : decode cX8_forget 5 = .ok (.aload_n 0, 1) := by decide +kernel
theorem dX8_forget_6 : decode cX8_forget 6 = .ok (.getfield 171, 3) := by decide +kernel
theorem dX8_forget_9 : decode cX8_forget 9 = .ok (.istore_n 1, 1) := by decide +kernel
theorem dX8_forget_10 : decode cX8_forget 10 = .ok (.aload_n 0, 1) := by decide +kernel
theorem dX8_forget_11 : decode cX8_forget 11 = .ok (.iconst 0, 1) := by decide +kernel
theorem dX8_forget_12 : decode cX8_forget 12 = .ok (.putfield 171, 3) := by decide +kernel
theorem dX8_forget_15 : decode cX8_forget 15 = .ok (.iload_n 1, 1) := by decide +kernel
theorem dX8_forget_16 : decode cX8_forget 16 = .ok (.ireturn, 1) := by decide +kernel
theorem dX8_which_0 : decode cX8_which 0 = .ok (.aload_n 0, 1) := by decide +kernel
theorem dX8_which_1 : decode cX8_which 1 = .ok (.iconst 0, 1) := by decide +kernel
theorem dX8_which_2 : decode cX8_which 2 = .ok (.putfield 36, 3) := by decide +kernel
theorem dX8_which_5 : decode cX8_which 5 = .ok (.iload_n 1, 1) := by decide +kernel
theorem dX8_which_6 : decode cX8_which 6 = .ok (.iconst 0, 1) := by decide +kernel
theorem dX8_which_7 : decode cX8_which 7 = .ok (.iconst 1, 1) := by decide +kernel
theorem dX8_which_8 : decode cX8_which 8 = .ok (.invokestatic 40, 3) := by decide +kernel
theorem dX8_which_11 : decode cX8_which 11 = .ok (.ifCond .ne 5, 3) := by decide +kernel
theorem dX8_which_14 : decode cX8_which 14 = .ok (.iconst (-1), 1) := by decide +kernel
theorem dX8_which_15 : decode cX8_which 15 = .ok (.ireturn, 1) := by decide +kernel
theorem dX8_which_16 : decode cX8_which 16 = .ok (.aload_n 0, 1) := by decide +kernel
theorem dX8_which_17 : decode cX8_which 17 = .ok (.aload_n 0, 1) := by decide +kernel
theorem dX8_which_18 : decode cX8_which 18 = .ok (.aload_n 0, 1) := by decide +kernel
theorem dX8_which_19 : decode cX8_which 19 = .ok (.getfield 7, 3) := by decide +kernel
theorem dX8_which_22 : decode cX8_which 22 = .ok (.iconst 5, 1) := by decide +kernel
theorem dX8_which_23 : decode cX8_which 23 = .ok (.iaload, 1) := by decide +kernel
theorem dX8_which_24 : decode cX8_which 24 = .ok (.invokevirtual 104, 3) := by decide +kernel
theorem dX8_which_27 : decode cX8_which 27 = .ok (.invokevirtual 107, 3) := by decide +kernel
theorem dX8_which_30 : decode cX8_which 30 = .ok (.iconst 0, 1) := by decide +kernel
theorem dX8_which_31 : decode cX8_which 31 = .ok (.istore_n 2, 1) := by decide +kernel
theorem dX8_which_32 : decode cX8_which 32 = .ok (.bipush (-9), 2) := by decide +kernel
theorem dX8_which_34 : decode cX8_which 34 = .ok (.istore_n 3, 1) := by decide +kernel
theorem dX8_which_35 : decode cX8_which 35 = .ok (.iconst 0, 1) := by decide +kernel
theorem dX8_which_36 : decode cX8_which 36 = .ok (.istore 4, 2) := by decide +kernel
theorem dX8_which_38 : decode cX8_which 38 = .ok (.iload 4, 2) := by decide +kernel
theorem dX8_which_40 : decode cX8_which 40 = .ok (.aload_n 0, 1) := by decide +kernel
theorem dX8_which_41 : decode cX8_which 41 = .ok (.getfield 7, 3) := by decide +kernel
theorem dX8_which_44 : decode cX8_which 44 = .ok (.iconst 0, 1) := by decide +kernel
theorem dX8_which_45 : decode cX8_which 45 = .ok (.iaload, 1) := by decide +kernel
theorem dX8_which_46 : decode cX8_which 46 = .ok (.if_icmp .ge 129, 3) := by decide +kernel
theorem dX8_which_49 : decode cX8_which 49 = .ok (.iload 4, 2) := by decide +kernel
theorem dX8_which_51 : decode cX8_which 51 = .ok (.aload_n 0, 1) := by decide +kernel
theorem dX8_which_52 : decode cX8_which 52 = .ok (.getfield 7, 3) := by decide +kernel
theorem dX8_which_55 : decode cX8_which 55 = .ok (.iconst 2, 1) := by decide +kernel
theorem dX8_which_56 : decode cX8_which 56 = .ok (.iaload, 1) := by decide +kernel
theorem dX8_which_57 : decode cX8_which 57 = .ok (.if_icmp .eq 21, 3) := by decide +kernel
theorem dX8_which_60 : decode cX8_which 60 = .ok (.aload_n 0, 1) := by decide +kernel
theorem dX8_which_61 : decode cX8_which 61 = .ok (.getfield 7, 3) := by decide +kernel
theorem dX8_which_64 : decode cX8_which 64 = .ok (.iconst 4, 1) := by decide +kernel
theorem dX8_which_65 : decode cX8_which 65 = .ok (.iaload, 1) := by decide +kernel
theorem dX8_which_66 : decode cX8_which 66 = .ok (.iload 4, 2) := by decide +kernel
theorem dX8_which_68 : decode cX8_which 68 = .ok (.invokestatic 94, 3) := by decide +kernel
theorem dX8_which_71 : decode cX8_which 71 = .ok (.ifCond .ne 7, 3) := by decide +kernel
theorem dX8_which_74 : decode cX8_which 74 = .ok (.iconst 1, 1) := by decide +kernel
theorem dX8_which_75 : decode cX8_which 75 = .ok (.goto 4, 3) := by decide +kernel
theorem dX8_which_78 : decode cX8_which 78 = .ok (.iconst 0, 1) := by decide +kernel
theorem dX8_which_79 : decode cX8_which 79 = .ok (.istore 5, 2) := by decide +kernel
theorem dX8_which_81 : decode cX8_which 81 = .ok (.iconst 0, 1) := by decide +kernel
theorem dX8_which_82 : decode cX8_which 82 = .ok (.istore 6, 2) := by decide +kernel
theorem dX8_which_84 : decode cX8_which 84 = .ok (.iload 6, 2) := by decide +kernel
theorem dX8_which_86 : decode cX8_which 86 = .ok (.aload_n 0, 1) := by decide +kernel
theorem dX8_which_87 : decode cX8_which 87 = .ok (.getfield 171, 3) := by decide +kernel
theorem dX8_which_90 : decode cX8_which 90 = .ok (.if_icmp .ge 50, 3) := by decide +kernel
theorem dX8_which_93 : decode cX8_which 93 = .ok (.iload 5, 2) := by decide +kernel
theorem dX8_which_95 : decode cX8_which 95 = .ok (.ifCond .eq 45, 3) := by decide +kernel
theorem dX8_which_98 : decode cX8_which 98 = .ok (.aload_n 0, 1) := by decide +kernel
theorem dX8_which_99 : decode cX8_which 99 = .ok (.iload 4, 2) := by decide +kernel
theorem dX8_which_101 : decode cX8_which 101 = .ok (.aload_n 0, 1) := by decide +kernel
theorem dX8_which_102 : decode cX8_which 102 = .ok (.getfield 26, 3) := by decide +kernel
theorem dX8_which_105 : decode cX8_which 105 = .ok (.iconst 2, 1) := by decide +kernel
theorem dX8_which_106 : decode cX8_which 106 = .ok (.iload 6, 2) := by decide +kernel
theorem dX8_which_108 : decode cX8_which 108 = .ok (.imul, 1) := by decide +kernel
theorem dX8_which_109 : decode cX8_which 109 = .ok (.iaload, 1) := by decide +kernel
theorem dX8_which_110 : decode cX8_which 110 = .ok (.invokevirtual 157, 3) := by decide +kernel
theorem dX8_which_113 : decode cX8_which 113 = .ok (.aload_n 0, 1) := by decide +kernel
theorem dX8_which_114 : decode cX8_which 114 = .ok (.getfield 26, 3) := by decide +kernel
theorem dX8_which_117 : decode cX8_which 117 = .ok (.iconst 2, 1) := by decide +kernel
theorem dX8_which_118 : decode cX8_which 118 = .ok (.iload 6, 2) := by decide +kernel
theorem dX8_which_120 : decode cX8_which 120 = .ok (.imul, 1) := by decide +kernel
theorem dX8_which_121 : decode cX8_which 121 = .ok (.iconst 1, 1) := by decide +kernel
theorem dX8_which_122 : decode cX8_which 122 = .ok (.iadd, 1) := by decide +kernel
theorem dX8_which_123 : decode cX8_which 123 = .ok (.iaload, 1) := by decide +kernel
theorem dX8_which_124 : decode cX8_which 124 = .ok (.if_icmp .ne 7, 3) := by decide +kernel
theorem dX8_which_127 : decode cX8_which 127 = .ok (.iconst 1, 1) := by decide +kernel
theorem dX8_which_128 : decode cX8_which 128 = .ok (.goto 4, 3) := by decide +kernel
theorem dX8_which_131 : decode cX8_which 131 = .ok (.iconst 0, 1) := by decide +kernel
theorem dX8_which_132 : decode cX8_which 132 = .ok (.istore 5, 2) := by decide +kernel
theorem dX8_which_134 : decode cX8_which 134 = .ok (.iinc 6 1, 3) := by decide +kernel
theorem dX8_which_137 : decode cX8_which 137 = .ok (.goto (-53), 3) := by decide +kernel
theorem dX8_which_140 : decode cX8_which 140 = .ok (.iload 5, 2) := by decide +kernel
theorem dX8_which_142 : decode cX8_which 142 = .ok (.ifCond .eq 12, 3) := by decide +kernel
theorem dX8_which_145 : decode cX8_which 145 = .ok (.iload_n 2, 1) := by decide +kernel
theorem dX8_which_146 : decode cX8_which 146 = .ok (.ifCond .ne 8, 3) := by decide +kernel
theorem dX8_which_149 : decode cX8_which 149 = .ok (.iload 4, 2) := by decide +kernel
theorem dX8_which_151 : decode cX8_which 151 = .ok (.goto 4, 3) := by decide +kernel
theorem dX8_which_154 : decode cX8_which 154 = .ok (.iload_n 3, 1) := by decide +kernel
theorem dX8_which_155 : decode cX8_which 155 = .ok (.istore_n 3, 1) := by decide +kernel
theorem dX8_which_156 : decode cX8_which 156 = .ok (.iload_n 2, 1) := by decide +kernel
theorem dX8_which_157 : decode cX8_which 157 = .ok (.iload 5, 2) := by decide +kernel
theorem dX8_which_159 : decode cX8_which 159 = .ok (.ifCond .eq 7, 3) := by decide +kernel
theorem dX8_which_162 : decode cX8_which 162 = .ok (.iconst 1, 1) := by decide +kernel
theorem dX8_which_163 : decode cX8_which 163 = .ok (.goto 4, 3) := by decide +kernel
theorem dX8_which_166 : decode cX8_which 166 = .ok (.iconst 0, 1) := by decide +kernel
theorem dX8_which_167 : decode cX8_which 167 = .ok (.iadd, 1) := by decide +kernel
theorem dX8_which_168 : decode cX8_which 168 = .ok (.istore_n 2, 1) := by decide +kernel
theorem dX8_which_169 : decode cX8_which 169 = .ok (.iinc 4 1, 3) := by decide +kernel
theorem dX8_which_172 : decode cX8_which 172 = .ok (.goto (-134), 3) := by decide +kernel
theorem dX8_which_175 : decode cX8_which 175 = .ok (.iload_n 1, 1) := by decide +kernel
theorem dX8_which_176 : decode cX8_which 176 = .ok (.ifCond .ne 7, 3) := by decide +kernel
theorem dX8_which_179 : decode cX8_which 179 = .ok (.iload_n 2, 1) := by decide +kernel
theorem dX8_which_180 : decode cX8_which 180 = .ok (.goto 4, 3) := by decide +kernel
theorem dX8_which_183 : decode cX8_which 183 = .ok (.iload_n 3, 1) := by decide +kernel
theorem dX8_which_184 : decode cX8_which 184 = .ok (.ireturn, 1) := by decide +kernel
theorem dX8_keep_0 : decode cX8_keep 0 = .ok (.aload_n 0, 1) := by decide +kernel
theorem dX8_keep_1 : decode cX8_keep 1 = .ok (.iconst 0, 1) := by decide +kernel
theorem dX8_keep_2 : decode cX8_keep 2 = .ok (.putfield 36, 3) := by decide +kernel
theorem dX8_keep_5 : decode cX8_keep 5 = .ok (.iload_n 1, 1) := by decide +kernel
theorem dX8_keep_6 : decode cX8_keep 6 = .ok (.iconst 0, 1) := by decide +kernel
theorem dX8_keep_7 : decode cX8_keep 7 = .ok (.iconst 1, 1) := by decide +kernel
theorem dX8_keep_8 : decode cX8_keep 8 = .ok (.invokestatic 40, 3) := by decide +kernel
theorem dX8_keep_11 : decode cX8_keep 11 = .ok (.ifCond .ne 5, 3) := by decide +kernel
theorem dX8_keep_14 : decode cX8_keep 14 = .ok (.iconst (-1), 1) := by decide +kernel
theorem dX8_keep_15 : decode cX8_keep 15 = .ok (.ireturn, 1) := by decide +kernel
theorem dX8_keep_16 : decode cX8_keep 16 = .ok (.iconst 0, 1) := by decide +kernel
theorem dX8_keep_17 : decode cX8_keep 17 = .ok (.istore_n 2, 1) := by decide +kernel
theorem dX8_keep_18 : decode cX8_keep 18 = .ok (.iload_n 2, 1) := by decide +kernel
theorem dX8_keep_19 : decode cX8_keep 19 = .ok (.bipush 52, 2) := by decide +kernel
theorem dX8_keep_21 : decode cX8_keep 21 = .ok (.if_icmp .ge 26, 3) := by decide +kernel
theorem dX8_keep_24 : decode cX8_keep 24 = .ok (.aload_n 0, 1) := by decide +kernel
theorem dX8_keep_25 : decode cX8_keep 25 = .ok (.getfield 19, 3) := by decide +kernel
theorem dX8_keep_28 : decode cX8_keep 28 = .ok (.bipush 52, 2) := by decide +kernel
theorem dX8_keep_30 : decode cX8_keep 30 = .ok (.iload_n 1, 1) := by decide +kernel
theorem dX8_keep_31 : decode cX8_keep 31 = .ok (.imul, 1) := by decide +kernel
theorem dX8_keep_32 : decode cX8_keep 32 = .ok (.iload_n 2, 1) := by decide +kernel
theorem dX8_keep_33 : decode cX8_keep 33 = .ok (.iadd, 1) := by decide +kernel
theorem dX8_keep_34 : decode cX8_keep 34 = .ok (.aload_n 0, 1) := by decide +kernel
theorem dX8_keep_35 : decode cX8_keep 35 = .ok (.getfield 7, 3) := by decide +kernel
theorem dX8_keep_38 : decode cX8_keep 38 = .ok (.iload_n 2, 1) := by decide +kernel
theorem dX8_keep_39 : decode cX8_keep 39 = .ok (.iaload, 1) := by decide +kernel
theorem dX8_keep_40 : decode cX8_keep 40 = .ok (.iastore, 1) := by decide +kernel
theorem dX8_keep_41 : decode cX8_keep 41 = .ok (.iinc 2 1, 3) := by decide +kernel
theorem dX8_keep_44 : decode cX8_keep 44 = .ok (.goto (-26), 3) := by decide +kernel
theorem dX8_keep_47 : decode cX8_keep 47 = .ok (.aload_n 0, 1) := by decide +kernel
theorem dX8_keep_48 : decode cX8_keep 48 = .ok (.getfield 22, 3) := by decide +kernel
theorem dX8_keep_51 : decode cX8_keep 51 = .ok (.iload_n 1, 1) := by decide +kernel
theorem dX8_keep_52 : decode cX8_keep 52 = .ok (.iconst 1, 1) := by decide +kernel
theorem dX8_keep_53 : decode cX8_keep 53 = .ok (.bastore, 1) := by decide +kernel
theorem dX8_keep_54 : decode cX8_keep 54 = .ok (.aload_n 0, 1) := by decide +kernel
theorem dX8_keep_55 : decode cX8_keep 55 = .ok (.getfield 7, 3) := by decide +kernel
theorem dX8_keep_58 : decode cX8_keep 58 = .ok (.iconst 4, 1) := by decide +kernel
theorem dX8_keep_59 : decode cX8_keep 59 = .ok (.iaload, 1) := by decide +kernel
theorem dX8_keep_60 : decode cX8_keep 60 = .ok (.invokestatic 145, 3) := by decide +kernel
theorem dX8_keep_63 : decode cX8_keep 63 = .ok (.ireturn, 1) := by decide +kernel
theorem dX8_back_0 : decode cX8_back 0 = .ok (.aload_n 0, 1) := by decide +kernel
theorem dX8_back_1 : decode cX8_back 1 = .ok (.iconst 0, 1) := by decide +kernel
theorem dX8_back_2 : decode cX8_back 2 = .ok (.putfield 36, 3) := by decide +kernel
theorem dX8_back_5 : decode cX8_back 5 = .ok (.iload_n 1, 1) := by decide +kernel
theorem dX8_back_6 : decode cX8_back 6 = .ok (.iconst 0, 1) := by decide +kernel
theorem dX8_back_7 : decode cX8_back 7 = .ok (.iconst 1, 1) := by decide +kernel
theorem dX8_back_8 : decode cX8_back 8 = .ok (.invokestatic 40, 3) := by decide +kernel
theorem dX8_back_11 : decode cX8_back 11 = .ok (.ifCond .ne 5, 3) := by decide +kernel
theorem dX8_back_14 : decode cX8_back 14 = .ok (.iconst (-1), 1) := by decide +kernel
theorem dX8_back_15 : decode cX8_back 15 = .ok (.ireturn, 1) := by decide +kernel
theorem dX8_back_16 : decode cX8_back 16 = .ok (.aload_n 0, 1) := by decide +kernel
theorem dX8_back_17 : decode cX8_back 17 = .ok (.getfield 22, 3) := by decide +kernel
theorem dX8_back_20 : decode cX8_back 20 = .ok (.iload_n 1, 1) := by decide +kernel
theorem dX8_back_21 : decode cX8_back 21 = .ok (.baload, 1) := by decide +kernel
theorem dX8_back_22 : decode cX8_back 22 = .ok (.ifCond .ne 6, 3) := by decide +kernel
theorem dX8_back_25 : decode cX8_back 25 = .ok (.bipush (-2), 2) := by decide +kernel
theorem dX8_back_27 : decode cX8_back 27 = .ok (.ireturn, 1) := by decide +kernel
theorem dX8_back_28 : decode cX8_back 28 = .ok (.iconst 0, 1) := by decide +kernel
theorem dX8_back_29 : decode cX8_back 29 = .ok (.istore_n 2, 1) := by decide +kernel
theorem dX8_back_30 : decode cX8_back 30 = .ok (.iload_n 2, 1) := by decide +kernel
theorem dX8_back_31 : decode cX8_back 31 = .ok (.bipush 52, 2) := by decide +kernel
theorem dX8_back_33 : decode cX8_back 33 = .ok (.if_icmp .ge 26, 3) := by decide +kernel
theorem dX8_back_36 : decode cX8_back 36 = .ok (.aload_n 0, 1) := by decide +kernel
theorem dX8_back_37 : decode cX8_back 37 = .ok (.getfield 7, 3) := by decide +kernel
theorem dX8_back_40 : decode cX8_back 40 = .ok (.iload_n 2, 1) := by decide +kernel
theorem dX8_back_41 : decode cX8_back 41 = .ok (.aload_n 0, 1) := by decide +kernel
theorem dX8_back_42 : decode cX8_back 42 = .ok (.getfield 19, 3) := by decide +kernel
theorem dX8_back_45 : decode cX8_back 45 = .ok (.bipush 52, 2) := by decide +kernel
theorem dX8_back_47 : decode cX8_back 47 = .ok (.iload_n 1, 1) := by decide +kernel
theorem dX8_back_48 : decode cX8_back 48 = .ok (.imul, 1) := by decide +kernel
theorem dX8_back_49 : decode cX8_back 49 = .ok (.iload_n 2, 1) := by decide +kernel
theorem dX8_back_50 : decode cX8_back 50 = .ok (.iadd, 1) := by decide +kernel
theorem dX8_back_51 : decode cX8_back 51 = .ok (.iaload, 1) := by decide +kernel
theorem dX8_back_52 : decode cX8_back 52 = .ok (.iastore, 1) := by decide +kernel
theorem dX8_back_53 : decode cX8_back 53 = .ok (.iinc 2 1, 3) := by decide +kernel
theorem dX8_back_56 : decode cX8_back 56 = .ok (.goto (-26), 3) := by decide +kernel
theorem dX8_back_59 : decode cX8_back 59 = .ok (.aload_n 0, 1) := by decide +kernel
theorem dX8_back_60 : decode cX8_back 60 = .ok (.iconst 0, 1) := by decide +kernel
theorem dX8_back_61 : decode cX8_back 61 = .ok (.putfield 114, 3) := by decide +kernel
theorem dX8_back_64 : decode cX8_back 64 = .ok (.aload_n 0, 1) := by decide +kernel
theorem dX8_back_65 : decode cX8_back 65 = .ok (.getfield 7, 3) := by decide +kernel
theorem dX8_back_68 : decode cX8_back 68 = .ok (.iconst 4, 1) := by decide +kernel
theorem dX8_back_69 : decode cX8_back 69 = .ok (.iaload, 1) := by decide +kernel
theorem dX8_back_70 : decode cX8_back 70 = .ok (.invokestatic 145, 3) := by decide +kernel
theorem dX8_back_73 : decode cX8_back 73 = .ok (.ireturn, 1) := by decide +kernel
theorem dX8_count_0 : decode cX8_count 0 = .ok (.aload_n 0, 1) := by decide +kernel
theorem dX8_count_1 : decode cX8_count 1 = .ok (.iconst 0, 1) := by decide +kernel
theorem dX8_count_2 : decode cX8_count 2 = .ok (.putfield 36, 3) := by decide +kernel
theorem dX8_count_5 : decode cX8_count 5 = .ok (.iload_n 1, 1) := by decide +kernel
theorem dX8_count_6 : decode cX8_count 6 = .ok (.tableswitch 105 0 9 #[54, 54, 54, 54, 61, 71, 79, 90, 95, 100], 54) := by decide +kernel
theorem dX8_count_60 : decode cX8_count 60 = .ok (.aload_n 0, 1) := by decide +kernel
theorem dX8_count_61 : decode cX8_count 61 = .ok (.getfield 7, 3) := by decide +kernel
theorem dX8_count_64 : decode cX8_count 64 = .ok (.iload_n 1, 1) := by decide +kernel
theorem dX8_count_65 : decode cX8_count 65 = .ok (.iaload, 1) := by decide +kernel
theorem dX8_count_66 : decode cX8_count 66 = .ok (.ireturn, 1) := by decide +kernel
theorem dX8_count_67 : decode cX8_count 67 = .ok (.aload_n 0, 1) := by decide +kernel
theorem dX8_count_68 : decode cX8_count 68 = .ok (.getfield 7, 3) := by decide +kernel
theorem dX8_count_71 : decode cX8_count 71 = .ok (.iconst 4, 1) := by decide +kernel
theorem dX8_count_72 : decode cX8_count 72 = .ok (.iaload, 1) := by decide +kernel
theorem dX8_count_73 : decode cX8_count 73 = .ok (.invokestatic 145, 3) := by decide +kernel
theorem dX8_count_76 : decode cX8_count 76 = .ok (.ireturn, 1) := by decide +kernel
theorem dX8_count_77 : decode cX8_count 77 = .ok (.aload_n 0, 1) := by decide +kernel
theorem dX8_count_78 : decode cX8_count 78 = .ok (.getfield 7, 3) := by decide +kernel
theorem dX8_count_81 : decode cX8_count 81 = .ok (.bipush 7, 2) := by decide +kernel
theorem dX8_count_83 : decode cX8_count 83 = .ok (.iaload, 1) := by decide +kernel
theorem dX8_count_84 : decode cX8_count 84 = .ok (.ireturn, 1) := by decide +kernel
theorem dX8_count_85 : decode cX8_count 85 = .ok (.aload_n 0, 1) := by decide +kernel
theorem dX8_count_86 : decode cX8_count 86 = .ok (.getfield 7, 3) := by decide +kernel
theorem dX8_count_89 : decode cX8_count 89 = .ok (.bipush 6, 2) := by decide +kernel
theorem dX8_count_91 : decode cX8_count 91 = .ok (.iaload, 1) := by decide +kernel
theorem dX8_count_92 : decode cX8_count 92 = .ok (.invokestatic 145, 3) := by decide +kernel
theorem dX8_count_95 : decode cX8_count 95 = .ok (.ireturn, 1) := by decide +kernel
theorem dX8_count_96 : decode cX8_count 96 = .ok (.aload_n 0, 1) := by decide +kernel
theorem dX8_count_97 : decode cX8_count 97 = .ok (.getfield 171, 3) := by decide +kernel
theorem dX8_count_100 : decode cX8_count 100 = .ok (.ireturn, 1) := by decide +kernel
theorem dX8_count_101 : decode cX8_count 101 = .ok (.aload_n 0, 1) := by decide +kernel
theorem dX8_count_102 : decode cX8_count 102 = .ok (.getfield 44, 3) := by decide +kernel
theorem dX8_count_105 : decode cX8_count 105 = .ok (.ireturn, 1) := by decide +kernel
theorem dX8_count_106 : decode cX8_count 106 = .ok (.aload_n 0, 1) := by decide +kernel
theorem dX8_count_107 : decode cX8_count 107 = .ok (.getfield 114, 3) := by decide +kernel
theorem dX8_count_110 : decode cX8_count 110 = .ok (.ireturn, 1) := by decide +kernel
theorem dX8_count_111 : decode cX8_count 111 = .ok (.iconst (-1), 1) := by decide +kernel
theorem dX8_count_112 : decode cX8_count 112 = .ok (.ireturn, 1) := by decide +kernel
theorem dL_law_0 : decode cL_law 0 = .ok (.new 7, 3) := by decide +kernel
theorem dL_law_3 : decode cL_law 3 = .ok (.dup, 1) := by decide +kernel
theorem dL_law_4 : decode cL_law 4 = .ok (.invokespecial 9, 3) := by decide +kernel
theorem dL_law_7 : decode cL_law 7 = .ok (.astore_n 1, 1) := by decide +kernel
theorem dL_law_8 : decode cL_law 8 = .ok (.new 10, 3) := by decide +kernel
theorem dL_law_11 : decode cL_law 11 = .ok (.dup, 1) := by decide +kernel
theorem dL_law_12 : decode cL_law 12 = .ok (.invokespecial 12, 3) := by decide +kernel
theorem dL_law_15 : decode cL_law 15 = .ok (.astore_n 2, 1) := by decide +kernel
theorem dL_law_16 : decode cL_law 16 = .ok (.iconst 0, 1) := by decide +kernel
theorem dL_law_17 : decode cL_law 17 = .ok (.istore_n 3, 1) := by decide +kernel
theorem dL_law_18 : decode cL_law 18 = .ok (.iload_n 3, 1) := by decide +kernel
theorem dL_law_19 : decode cL_law 19 = .ok (.aload_n 0, 1) := by decide +kernel
theorem dL_law_20 : decode cL_law 20 = .ok (.arraylength, 1) := by decide +kernel
theorem dL_law_21 : decode cL_law 21 = .ok (.iconst 3, 1) := by decide +kernel
theorem dL_law_22 : decode cL_law 22 = .ok (.isub, 1) := by decide +kernel
theorem dL_law_23 : decode cL_law 23 = .ok (.if_icmp .gt 561, 3) := by decide +kernel
theorem dL_law_26 : decode cL_law 26 = .ok (.aload_n 0, 1) := by decide +kernel
theorem dL_law_27 : decode cL_law 27 = .ok (.iload_n 3, 1) := by decide +kernel
theorem dL_law_28 : decode cL_law 28 = .ok (.iaload, 1) := by decide +kernel
theorem dL_law_29 : decode cL_law 29 = .ok (.bipush 31, 2) := by decide +kernel
theorem dL_law_31 : decode cL_law 31 = .ok (.iand, 1) := by decide +kernel
theorem dL_law_32 : decode cL_law 32 = .ok (.tableswitch 546 0 19 #[96, 119, 132, 145, 168, 191, 204, 227, 250, 273, 286, 319, 352, 385, 408, 441, 454, 477, 500, 523], 96) := by decide +kernel
theorem dL_law_128 : decode cL_law 128 = .ok (.aload_n 1, 1) := by decide +kernel
theorem dL_law_129 : decode cL_law 129 = .ok (.aload_n 0, 1) := by decide +kernel
theorem dL_law_130 : decode cL_law 130 = .ok (.iload_n 3, 1) := by decide +kernel
theorem dL_law_131 : decode cL_law 131 = .ok (.iconst 1, 1) := by decide +kernel
theorem dL_law_132 : decode cL_law 132 = .ok (.iadd, 1) := by decide +kernel
theorem dL_law_133 : decode cL_law 133 = .ok (.iaload, 1) := by decide +kernel
theorem dL_law_134 : decode cL_law 134 = .ok (.invokevirtual 13, 3) := by decide +kernel
theorem dL_law_137 : decode cL_law 137 = .ok (.aload_n 2, 1) := by decide +kernel
theorem dL_law_138 : decode cL_law 138 = .ok (.aload_n 0, 1) := by decide +kernel
theorem dL_law_139 : decode cL_law 139 = .ok (.iload_n 3, 1) := by decide +kernel
theorem dL_law_140 : decode cL_law 140 = .ok (.iconst 1, 1) := by decide +kernel
theorem dL_law_141 : decode cL_law 141 = .ok (.iadd, 1) := by decide +kernel
theorem dL_law_142 : decode cL_law 142 = .ok (.iaload, 1) := by decide +kernel
theorem dL_law_143 : decode cL_law 143 = .ok (.invokevirtual 17, 3) := by decide +kernel
theorem dL_law_146 : decode cL_law 146 = .ok (.if_icmp .eq 432, 3) := by decide +kernel
theorem dL_law_149 : decode cL_law 149 = .ok (.iconst 0, 1) := by decide +kernel
theorem dL_law_150 : decode cL_law 150 = .ok (.ireturn, 1) := by decide +kernel
theorem dL_law_151 : decode cL_law 151 = .ok (.aload_n 1, 1) := by decide +kernel
theorem dL_law_152 : decode cL_law 152 = .ok (.invokevirtual 18, 3) := by decide +kernel
theorem dL_law_155 : decode cL_law 155 = .ok (.aload_n 2, 1) := by decide +kernel
theorem dL_law_156 : decode cL_law 156 = .ok (.invokevirtual 22, 3) := by decide +kernel
theorem dL_law_159 : decode cL_law 159 = .ok (.if_icmp .eq 419, 3) := by decide +kernel
theorem dL_law_162 : decode cL_law 162 = .ok (.iconst 0, 1) := by decide +kernel
theorem dL_law_163 : decode cL_law 163 = .ok (.ireturn, 1) := by decide +kernel
theorem dL_law_164 : decode cL_law 164 = .ok (.aload_n 1, 1) := by decide +kernel
theorem dL_law_165 : decode cL_law 165 = .ok (.invokevirtual 23, 3) := by decide +kernel
theorem dL_law_168 : decode cL_law 168 = .ok (.aload_n 2, 1) := by decide +kernel
theorem dL_law_169 : decode cL_law 169 = .ok (.invokevirtual 26, 3) := by decide +kernel
theorem dL_law_172 : decode cL_law 172 = .ok (.if_icmp .eq 406, 3) := by decide +kernel
theorem dL_law_175 : decode cL_law 175 = .ok (.iconst 0, 1) := by decide +kernel
theorem dL_law_176 : decode cL_law 176 = .ok (.ireturn, 1) := by decide +kernel
theorem dL_law_177 : decode cL_law 177 = .ok (.aload_n 1, 1) := by decide +kernel
theorem dL_law_178 : decode cL_law 178 = .ok (.aload_n 0, 1) := by decide +kernel
theorem dL_law_179 : decode cL_law 179 = .ok (.iload_n 3, 1) := by decide +kernel
theorem dL_law_180 : decode cL_law 180 = .ok (.iconst 1, 1) := by decide +kernel
theorem dL_law_181 : decode cL_law 181 = .ok (.iadd, 1) := by decide +kernel
theorem dL_law_182 : decode cL_law 182 = .ok (.iaload, 1) := by decide +kernel
theorem dL_law_183 : decode cL_law 183 = .ok (.invokevirtual 27, 3) := by decide +kernel
theorem dL_law_186 : decode cL_law 186 = .ok (.aload_n 2, 1) := by decide +kernel
theorem dL_law_187 : decode cL_law 187 = .ok (.aload_n 0, 1) := by decide +kernel
theorem dL_law_188 : decode cL_law 188 = .ok (.iload_n 3, 1) := by decide +kernel
theorem dL_law_189 : decode cL_law 189 = .ok (.iconst 1, 1) := by decide +kernel
theorem dL_law_190 : decode cL_law 190 = .ok (.iadd, 1) := by decide +kernel
theorem dL_law_191 : decode cL_law 191 = .ok (.iaload, 1) := by decide +kernel
theorem dL_law_192 : decode cL_law 192 = .ok (.invokevirtual 30, 3) := by decide +kernel
theorem dL_law_195 : decode cL_law 195 = .ok (.if_icmp .eq 383, 3) := by decide +kernel
theorem dL_law_198 : decode cL_law 198 = .ok (.iconst 0, 1) := by decide +kernel
theorem dL_law_199 : decode cL_law 199 = .ok (.ireturn, 1) := by decide +kernel
theorem dL_law_200 : decode cL_law 200 = .ok (.aload_n 1, 1) := by decide +kernel
theorem dL_law_201 : decode cL_law 201 = .ok (.aload_n 0, 1) := by decide +kernel
theorem dL_law_202 : decode cL_law 202 = .ok (.iload_n 3, 1) := by decide +kernel
theorem dL_law_203 : decode cL_law 203 = .ok (.iconst 1, 1) := by decide +kernel
theorem dL_law_204 : decode cL_law 204 = .ok (.iadd, 1) := by decide +kernel
theorem dL_law_205 : decode cL_law 205 = .ok (.iaload, 1) := by decide +kernel
theorem dL_law_206 : decode cL_law 206 = .ok (.invokevirtual 31, 3) := by decide +kernel
theorem dL_law_209 : decode cL_law 209 = .ok (.aload_n 2, 1) := by decide +kernel
theorem dL_law_210 : decode cL_law 210 = .ok (.aload_n 0, 1) := by decide +kernel
theorem dL_law_211 : decode cL_law 211 = .ok (.iload_n 3, 1) := by decide +kernel
theorem dL_law_212 : decode cL_law 212 = .ok (.iconst 1, 1) := by decide +kernel
theorem dL_law_213 : decode cL_law 213 = .ok (.iadd, 1) := by decide +kernel
theorem dL_law_214 : decode cL_law 214 = .ok (.iaload, 1) := by decide +kernel
theorem dL_law_215 : decode cL_law 215 = .ok (.invokevirtual 34, 3) := by decide +kernel
theorem dL_law_218 : decode cL_law 218 = .ok (.if_icmp .eq 360, 3) := by decide +kernel
theorem dL_law_221 : decode cL_law 221 = .ok (.iconst 0, 1) := by decide +kernel
theorem dL_law_222 : decode cL_law 222 = .ok (.ireturn, 1) := by decide +kernel
theorem dL_law_223 : decode cL_law 223 = .ok (.aload_n 1, 1) := by decide +kernel
theorem dL_law_224 : decode cL_law 224 = .ok (.invokevirtual 35, 3) := by decide +kernel
theorem dL_law_227 : decode cL_law 227 = .ok (.aload_n 2, 1) := by decide +kernel
theorem dL_law_228 : decode cL_law 228 = .ok (.invokevirtual 38, 3) := by decide +kernel
theorem dL_law_231 : decode cL_law 231 = .ok (.if_icmp .eq 347, 3) := by decide +kernel
theorem dL_law_234 : decode cL_law 234 = .ok (.iconst 0, 1) := by decide +kernel
theorem dL_law_235 : decode cL_law 235 = .ok (.ireturn, 1) := by decide +kernel
theorem dL_law_236 : decode cL_law 236 = .ok (.aload_n 1, 1) := by decide +kernel
theorem dL_law_237 : decode cL_law 237 = .ok (.aload_n 0, 1) := by decide +kernel
theorem dL_law_238 : decode cL_law 238 = .ok (.iload_n 3, 1) := by decide +kernel
theorem dL_law_239 : decode cL_law 239 = .ok (.iconst 1, 1) := by decide +kernel
theorem dL_law_240 : decode cL_law 240 = .ok (.iadd, 1) := by decide +kernel
theorem dL_law_241 : decode cL_law 241 = .ok (.iaload, 1) := by decide +kernel
theorem dL_law_242 : decode cL_law 242 = .ok (.invokevirtual 39, 3) := by decide +kernel
theorem dL_law_245 : decode cL_law 245 = .ok (.aload_n 2, 1) := by decide +kernel
theorem dL_law_246 : decode cL_law 246 = .ok (.aload_n 0, 1) := by decide +kernel
theorem dL_law_247 : decode cL_law 247 = .ok (.iload_n 3, 1) := by decide +kernel
theorem dL_law_248 : decode cL_law 248 = .ok (.iconst 1, 1) := by decide +kernel
theorem dL_law_249 : decode cL_law 249 = .ok (.iadd, 1) := by decide +kernel
theorem dL_law_250 : decode cL_law 250 = .ok (.iaload, 1) := by decide +kernel
theorem dL_law_251 : decode cL_law 251 = .ok (.invokevirtual 42, 3) := by decide +kernel
theorem dL_law_254 : decode cL_law 254 = .ok (.if_icmp .eq 324, 3) := by decide +kernel
theorem dL_law_257 : decode cL_law 257 = .ok (.iconst 0, 1) := by decide +kernel
theorem dL_law_258 : decode cL_law 258 = .ok (.ireturn, 1) := by decide +kernel
theorem dL_law_259 : decode cL_law 259 = .ok (.aload_n 1, 1) := by decide +kernel
theorem dL_law_260 : decode cL_law 260 = .ok (.aload_n 0, 1) := by decide +kernel
theorem dL_law_261 : decode cL_law 261 = .ok (.iload_n 3, 1) := by decide +kernel
theorem dL_law_262 : decode cL_law 262 = .ok (.iconst 1, 1) := by decide +kernel
theorem dL_law_263 : decode cL_law 263 = .ok (.iadd, 1) := by decide +kernel
theorem dL_law_264 : decode cL_law 264 = .ok (.iaload, 1) := by decide +kernel
theorem dL_law_265 : decode cL_law 265 = .ok (.invokevirtual 43, 3) := by decide +kernel
theorem dL_law_268 : decode cL_law 268 = .ok (.aload_n 2, 1) := by decide +kernel
theorem dL_law_269 : decode cL_law 269 = .ok (.aload_n 0, 1) := by decide +kernel
theorem dL_law_270 : decode cL_law 270 = .ok (.iload_n 3, 1) := by decide +kernel
theorem dL_law_271 : decode cL_law 271 = .ok (.iconst 1, 1) := by decide +kernel
theorem dL_law_272 : decode cL_law 272 = .ok (.iadd, 1) := by decide +kernel
theorem dL_law_273 : decode cL_law 273 = .ok (.iaload, 1) := by decide +kernel
theorem dL_law_274 : decode cL_law 274 = .ok (.invokevirtual 46, 3) := by decide +kernel
theorem dL_law_277 : decode cL_law 277 = .ok (.if_icmp .eq 301, 3) := by decide +kernel
theorem dL_law_280 : decode cL_law 280 = .ok (.iconst 0, 1) := by decide +kernel
theorem dL_law_281 : decode cL_law 281 = .ok (.ireturn, 1) := by decide +kernel
theorem dL_law_282 : decode cL_law 282 = .ok (.aload_n 1, 1) := by decide +kernel
theorem dL_law_283 : decode cL_law 283 = .ok (.aload_n 0, 1) := by decide +kernel
theorem dL_law_284 : decode cL_law 284 = .ok (.iload_n 3, 1) := by decide +kernel
theorem dL_law_285 : decode cL_law 285 = .ok (.iconst 1, 1) := by decide +kernel
theorem dL_law_286 : decode cL_law 286 = .ok (.iadd, 1) := by decide +kernel
theorem dL_law_287 : decode cL_law 287 = .ok (.iaload, 1) := by decide +kernel
theorem dL_law_288 : decode cL_law 288 = .ok (.invokevirtual 47, 3) := by decide +kernel
theorem dL_law_291 : decode cL_law 291 = .ok (.aload_n 2, 1) := by decide +kernel
theorem dL_law_292 : decode cL_law 292 = .ok (.aload_n 0, 1) := by decide +kernel
theorem dL_law_293 : decode cL_law 293 = .ok (.iload_n 3, 1) := by decide +kernel
theorem dL_law_294 : decode cL_law 294 = .ok (.iconst 1, 1) := by decide +kernel
theorem dL_law_295 : decode cL_law 295 = .ok (.iadd, 1) := by decide +kernel
theorem dL_law_296 : decode cL_law 296 = .ok (.iaload, 1) := by decide +kernel
theorem dL_law_297 : decode cL_law 297 = .ok (.invokevirtual 50, 3) := by decide +kernel
theorem dL_law_300 : decode cL_law 300 = .ok (.if_icmp .eq 278, 3) := by decide +kernel
theorem dL_law_303 : decode cL_law 303 = .ok (.iconst 0, 1) := by decide +kernel
theorem dL_law_304 : decode cL_law 304 = .ok (.ireturn, 1) := by decide +kernel
theorem dL_law_305 : decode cL_law 305 = .ok (.aload_n 1, 1) := by decide +kernel
theorem dL_law_306 : decode cL_law 306 = .ok (.invokevirtual 51, 3) := by decide +kernel
theorem dL_law_309 : decode cL_law 309 = .ok (.aload_n 2, 1) := by decide +kernel
theorem dL_law_310 : decode cL_law 310 = .ok (.invokevirtual 54, 3) := by decide +kernel
theorem dL_law_313 : decode cL_law 313 = .ok (.if_icmp .eq 265, 3) := by decide +kernel
theorem dL_law_316 : decode cL_law 316 = .ok (.iconst 0, 1) := by decide +kernel
theorem dL_law_317 : decode cL_law 317 = .ok (.ireturn, 1) := by decide +kernel
theorem dL_law_318 : decode cL_law 318 = .ok (.aload_n 1, 1) := by decide +kernel
theorem dL_law_319 : decode cL_law 319 = .ok (.aload_n 0, 1) := by decide +kernel
theorem dL_law_320 : decode cL_law 320 = .ok (.iload_n 3, 1) := by decide +kernel
theorem dL_law_321 : decode cL_law 321 = .ok (.iconst 1, 1) := by decide +kernel
theorem dL_law_322 : decode cL_law 322 = .ok (.iadd, 1) := by decide +kernel
theorem dL_law_323 : decode cL_law 323 = .ok (.iaload, 1) := by decide +kernel
theorem dL_law_324 : decode cL_law 324 = .ok (.aload_n 0, 1) := by decide +kernel
theorem dL_law_325 : decode cL_law 325 = .ok (.iload_n 3, 1) := by decide +kernel
theorem dL_law_326 : decode cL_law 326 = .ok (.iconst 2, 1) := by decide +kernel
theorem dL_law_327 : decode cL_law 327 = .ok (.iadd, 1) := by decide +kernel
theorem dL_law_328 : decode cL_law 328 = .ok (.iaload, 1) := by decide +kernel
theorem dL_law_329 : decode cL_law 329 = .ok (.invokevirtual 55, 3) := by decide +kernel
theorem dL_law_332 : decode cL_law 332 = .ok (.aload_n 2, 1) := by decide +kernel
theorem dL_law_333 : decode cL_law 333 = .ok (.aload_n 0, 1) := by decide +kernel
theorem dL_law_334 : decode cL_law 334 = .ok (.iload_n 3, 1) := by decide +kernel
theorem dL_law_335 : decode cL_law 335 = .ok (.iconst 1, 1) := by decide +kernel
theorem dL_law_336 : decode cL_law 336 = .ok (.iadd, 1) := by decide +kernel
theorem dL_law_337 : decode cL_law 337 = .ok (.iaload, 1) := by decide +kernel
theorem dL_law_338 : decode cL_law 338 = .ok (.aload_n 0, 1) := by decide +kernel
theorem dL_law_339 : decode cL_law 339 = .ok (.iload_n 3, 1) := by decide +kernel
theorem dL_law_340 : decode cL_law 340 = .ok (.iconst 2, 1) := by decide +kernel
theorem dL_law_341 : decode cL_law 341 = .ok (.iadd, 1) := by decide +kernel
theorem dL_law_342 : decode cL_law 342 = .ok (.iaload, 1) := by decide +kernel
theorem dL_law_343 : decode cL_law 343 = .ok (.invokevirtual 59, 3) := by decide +kernel
theorem dL_law_346 : decode cL_law 346 = .ok (.if_icmp .eq 232, 3) := by decide +kernel
theorem dL_law_349 : decode cL_law 349 = .ok (.iconst 0, 1) := by decide +kernel
theorem dL_law_350 : decode cL_law 350 = .ok (.ireturn, 1) := by decide +kernel
theorem dL_law_351 : decode cL_law 351 = .ok (.aload_n 1, 1) := by decide +kernel
theorem dL_law_352 : decode cL_law 352 = .ok (.aload_n 0, 1) := by decide +kernel
theorem dL_law_353 : decode cL_law 353 = .ok (.iload_n 3, 1) := by decide +kernel
theorem dL_law_354 : decode cL_law 354 = .ok (.iconst 1, 1) := by decide +kernel
theorem dL_law_355 : decode cL_law 355 = .ok (.iadd, 1) := by decide +kernel
theorem dL_law_356 : decode cL_law 356 = .ok (.iaload, 1) := by decide +kernel
theorem dL_law_357 : decode cL_law 357 = .ok (.aload_n 0, 1) := by decide +kernel
theorem dL_law_358 : decode cL_law 358 = .ok (.iload_n 3, 1) := by decide +kernel
theorem dL_law_359 : decode cL_law 359 = .ok (.iconst 2, 1) := by decide +kernel
theorem dL_law_360 : decode cL_law 360 = .ok (.iadd, 1) := by decide +kernel
theorem dL_law_361 : decode cL_law 361 = .ok (.iaload, 1) := by decide +kernel
theorem dL_law_362 : decode cL_law 362 = .ok (.invokevirtual 60, 3) := by decide +kernel
theorem dL_law_365 : decode cL_law 365 = .ok (.aload_n 2, 1) := by decide +kernel
theorem dL_law_366 : decode cL_law 366 = .ok (.aload_n 0, 1) := by decide +kernel
theorem dL_law_367 : decode cL_law 367 = .ok (.iload_n 3, 1) := by decide +kernel
theorem dL_law_368 : decode cL_law 368 = .ok (.iconst 1, 1) := by decide +kernel
theorem dL_law_369 : decode cL_law 369 = .ok (.iadd, 1) := by decide +kernel
theorem dL_law_370 : decode cL_law 370 = .ok (.iaload, 1) := by decide +kernel
theorem dL_law_371 : decode cL_law 371 = .ok (.aload_n 0, 1) := by decide +kernel
theorem dL_law_372 : decode cL_law 372 = .ok (.iload_n 3, 1) := by decide +kernel
theorem dL_law_373 : decode cL_law 373 = .ok (.iconst 2, 1) := by decide +kernel
theorem dL_law_374 : decode cL_law 374 = .ok (.iadd, 1) := by decide +kernel
theorem dL_law_375 : decode cL_law 375 = .ok (.iaload, 1) := by decide +kernel
theorem dL_law_376 : decode cL_law 376 = .ok (.invokevirtual 63, 3) := by decide +kernel
theorem dL_law_379 : decode cL_law 379 = .ok (.if_icmp .eq 199, 3) := by decide +kernel
theorem dL_law_382 : decode cL_law 382 = .ok (.iconst 0, 1) := by decide +kernel
theorem dL_law_383 : decode cL_law 383 = .ok (.ireturn, 1) := by decide +kernel
theorem dL_law_384 : decode cL_law 384 = .ok (.aload_n 1, 1) := by decide +kernel
theorem dL_law_385 : decode cL_law 385 = .ok (.aload_n 0, 1) := by decide +kernel
theorem dL_law_386 : decode cL_law 386 = .ok (.iload_n 3, 1) := by decide +kernel
theorem dL_law_387 : decode cL_law 387 = .ok (.iconst 1, 1) := by decide +kernel
theorem dL_law_388 : decode cL_law 388 = .ok (.iadd, 1) := by decide +kernel
theorem dL_law_389 : decode cL_law 389 = .ok (.iaload, 1) := by decide +kernel
theorem dL_law_390 : decode cL_law 390 = .ok (.aload_n 0, 1) := by decide +kernel
theorem dL_law_391 : decode cL_law 391 = .ok (.iload_n 3, 1) := by decide +kernel
theorem dL_law_392 : decode cL_law 392 = .ok (.iconst 2, 1) := by decide +kernel
theorem dL_law_393 : decode cL_law 393 = .ok (.iadd, 1) := by decide +kernel
theorem dL_law_394 : decode cL_law 394 = .ok (.iaload, 1) := by decide +kernel
theorem dL_law_395 : decode cL_law 395 = .ok (.invokevirtual 64, 3) := by decide +kernel
theorem dL_law_398 : decode cL_law 398 = .ok (.aload_n 2, 1) := by decide +kernel
theorem dL_law_399 : decode cL_law 399 = .ok (.aload_n 0, 1) := by decide +kernel
theorem dL_law_400 : decode cL_law 400 = .ok (.iload_n 3, 1) := by decide +kernel
theorem dL_law_401 : decode cL_law 401 = .ok (.iconst 1, 1) := by decide +kernel
theorem dL_law_402 : decode cL_law 402 = .ok (.iadd, 1) := by decide +kernel
theorem dL_law_403 : decode cL_law 403 = .ok (.iaload, 1) := by decide +kernel
theorem dL_law_404 : decode cL_law 404 = .ok (.aload_n 0, 1) := by decide +kernel
theorem dL_law_405 : decode cL_law 405 = .ok (.iload_n 3, 1) := by decide +kernel
theorem dL_law_406 : decode cL_law 406 = .ok (.iconst 2, 1) := by decide +kernel
theorem dL_law_407 : decode cL_law 407 = .ok (.iadd, 1) := by decide +kernel
theorem dL_law_408 : decode cL_law 408 = .ok (.iaload, 1) := by decide +kernel
theorem dL_law_409 : decode cL_law 409 = .ok (.invokevirtual 67, 3) := by decide +kernel
theorem dL_law_412 : decode cL_law 412 = .ok (.if_icmp .eq 166, 3) := by decide +kernel
theorem dL_law_415 : decode cL_law 415 = .ok (.iconst 0, 1) := by decide +kernel
theorem dL_law_416 : decode cL_law 416 = .ok (.ireturn, 1) := by decide +kernel
theorem dL_law_417 : decode cL_law 417 = .ok (.aload_n 1, 1) := by decide +kernel
theorem dL_law_418 : decode cL_law 418 = .ok (.aload_n 0, 1) := by decide +kernel
theorem dL_law_419 : decode cL_law 419 = .ok (.iload_n 3, 1) := by decide +kernel
theorem dL_law_420 : decode cL_law 420 = .ok (.iconst 1, 1) := by decide +kernel
theorem dL_law_421 : decode cL_law 421 = .ok (.iadd, 1) := by decide +kernel
theorem dL_law_422 : decode cL_law 422 = .ok (.iaload, 1) := by decide +kernel
theorem dL_law_423 : decode cL_law 423 = .ok (.invokevirtual 68, 3) := by decide +kernel
theorem dL_law_426 : decode cL_law 426 = .ok (.aload_n 2, 1) := by decide +kernel
theorem dL_law_427 : decode cL_law 427 = .ok (.aload_n 0, 1) := by decide +kernel
theorem dL_law_428 : decode cL_law 428 = .ok (.iload_n 3, 1) := by decide +kernel
theorem dL_law_429 : decode cL_law 429 = .ok (.iconst 1, 1) := by decide +kernel
theorem dL_law_430 : decode cL_law 430 = .ok (.iadd, 1) := by decide +kernel
theorem dL_law_431 : decode cL_law 431 = .ok (.iaload, 1) := by decide +kernel
theorem dL_law_432 : decode cL_law 432 = .ok (.invokevirtual 71, 3) := by decide +kernel
theorem dL_law_435 : decode cL_law 435 = .ok (.if_icmp .eq 143, 3) := by decide +kernel
theorem dL_law_438 : decode cL_law 438 = .ok (.iconst 0, 1) := by decide +kernel
theorem dL_law_439 : decode cL_law 439 = .ok (.ireturn, 1) := by decide +kernel
theorem dL_law_440 : decode cL_law 440 = .ok (.aload_n 1, 1) := by decide +kernel
theorem dL_law_441 : decode cL_law 441 = .ok (.aload_n 0, 1) := by decide +kernel
theorem dL_law_442 : decode cL_law 442 = .ok (.iload_n 3, 1) := by decide +kernel
theorem dL_law_443 : decode cL_law 443 = .ok (.iconst 1, 1) := by decide +kernel
theorem dL_law_444 : decode cL_law 444 = .ok (.iadd, 1) := by decide +kernel
theorem dL_law_445 : decode cL_law 445 = .ok (.iaload, 1) := by decide +kernel
theorem dL_law_446 : decode cL_law 446 = .ok (.aload_n 0, 1) := by decide +kernel
theorem dL_law_447 : decode cL_law 447 = .ok (.iload_n 3, 1) := by decide +kernel
theorem dL_law_448 : decode cL_law 448 = .ok (.iconst 2, 1) := by decide +kernel
theorem dL_law_449 : decode cL_law 449 = .ok (.iadd, 1) := by decide +kernel
theorem dL_law_450 : decode cL_law 450 = .ok (.iaload, 1) := by decide +kernel
theorem dL_law_451 : decode cL_law 451 = .ok (.invokevirtual 72, 3) := by decide +kernel
theorem dL_law_454 : decode cL_law 454 = .ok (.aload_n 2, 1) := by decide +kernel
theorem dL_law_455 : decode cL_law 455 = .ok (.aload_n 0, 1) := by decide +kernel
theorem dL_law_456 : decode cL_law 456 = .ok (.iload_n 3, 1) := by decide +kernel
theorem dL_law_457 : decode cL_law 457 = .ok (.iconst 1, 1) := by decide +kernel
theorem dL_law_458 : decode cL_law 458 = .ok (.iadd, 1) := by decide +kernel
theorem dL_law_459 : decode cL_law 459 = .ok (.iaload, 1) := by decide +kernel
theorem dL_law_460 : decode cL_law 460 = .ok (.aload_n 0, 1) := by decide +kernel
theorem dL_law_461 : decode cL_law 461 = .ok (.iload_n 3, 1) := by decide +kernel
theorem dL_law_462 : decode cL_law 462 = .ok (.iconst 2, 1) := by decide +kernel
theorem dL_law_463 : decode cL_law 463 = .ok (.iadd, 1) := by decide +kernel
theorem dL_law_464 : decode cL_law 464 = .ok (.iaload, 1) := by decide +kernel
theorem dL_law_465 : decode cL_law 465 = .ok (.invokevirtual 75, 3) := by decide +kernel
theorem dL_law_468 : decode cL_law 468 = .ok (.if_icmp .eq 110, 3) := by decide +kernel
theorem dL_law_471 : decode cL_law 471 = .ok (.iconst 0, 1) := by decide +kernel
theorem dL_law_472 : decode cL_law 472 = .ok (.ireturn, 1) := by decide +kernel
theorem dL_law_473 : decode cL_law 473 = .ok (.aload_n 1, 1) := by decide +kernel
theorem dL_law_474 : decode cL_law 474 = .ok (.invokevirtual 76, 3) := by decide +kernel
theorem dL_law_477 : decode cL_law 477 = .ok (.aload_n 2, 1) := by decide +kernel
theorem dL_law_478 : decode cL_law 478 = .ok (.invokevirtual 79, 3) := by decide +kernel
theorem dL_law_481 : decode cL_law 481 = .ok (.if_icmp .eq 97, 3) := by decide +kernel
theorem dL_law_484 : decode cL_law 484 = .ok (.iconst 0, 1) := by decide +kernel
theorem dL_law_485 : decode cL_law 485 = .ok (.ireturn, 1) := by decide +kernel
theorem dL_law_486 : decode cL_law 486 = .ok (.aload_n 1, 1) := by decide +kernel
theorem dL_law_487 : decode cL_law 487 = .ok (.aload_n 0, 1) := by decide +kernel
theorem dL_law_488 : decode cL_law 488 = .ok (.iload_n 3, 1) := by decide +kernel
theorem dL_law_489 : decode cL_law 489 = .ok (.iconst 1, 1) := by decide +kernel
theorem dL_law_490 : decode cL_law 490 = .ok (.iadd, 1) := by decide +kernel
theorem dL_law_491 : decode cL_law 491 = .ok (.iaload, 1) := by decide +kernel
theorem dL_law_492 : decode cL_law 492 = .ok (.invokevirtual 80, 3) := by decide +kernel
theorem dL_law_495 : decode cL_law 495 = .ok (.aload_n 2, 1) := by decide +kernel
theorem dL_law_496 : decode cL_law 496 = .ok (.aload_n 0, 1) := by decide +kernel
theorem dL_law_497 : decode cL_law 497 = .ok (.iload_n 3, 1) := by decide +kernel
theorem dL_law_498 : decode cL_law 498 = .ok (.iconst 1, 1) := by decide +kernel
theorem dL_law_499 : decode cL_law 499 = .ok (.iadd, 1) := by decide +kernel
theorem dL_law_500 : decode cL_law 500 = .ok (.iaload, 1) := by decide +kernel
theorem dL_law_501 : decode cL_law 501 = .ok (.invokevirtual 83, 3) := by decide +kernel
theorem dL_law_504 : decode cL_law 504 = .ok (.if_icmp .eq 74, 3) := by decide +kernel
theorem dL_law_507 : decode cL_law 507 = .ok (.iconst 0, 1) := by decide +kernel
theorem dL_law_508 : decode cL_law 508 = .ok (.ireturn, 1) := by decide +kernel
theorem dL_law_509 : decode cL_law 509 = .ok (.aload_n 1, 1) := by decide +kernel
theorem dL_law_510 : decode cL_law 510 = .ok (.aload_n 0, 1) := by decide +kernel
theorem dL_law_511 : decode cL_law 511 = .ok (.iload_n 3, 1) := by decide +kernel
theorem dL_law_512 : decode cL_law 512 = .ok (.iconst 1, 1) := by decide +kernel
theorem dL_law_513 : decode cL_law 513 = .ok (.iadd, 1) := by decide +kernel
theorem dL_law_514 : decode cL_law 514 = .ok (.iaload, 1) := by decide +kernel
theorem dL_law_515 : decode cL_law 515 = .ok (.invokevirtual 84, 3) := by decide +kernel
theorem dL_law_518 : decode cL_law 518 = .ok (.aload_n 2, 1) := by decide +kernel
theorem dL_law_519 : decode cL_law 519 = .ok (.aload_n 0, 1) := by decide +kernel
theorem dL_law_520 : decode cL_law 520 = .ok (.iload_n 3, 1) := by decide +kernel
theorem dL_law_521 : decode cL_law 521 = .ok (.iconst 1, 1) := by decide +kernel
theorem dL_law_522 : decode cL_law 522 = .ok (.iadd, 1) := by decide +kernel
theorem dL_law_523 : decode cL_law 523 = .ok (.iaload, 1) := by decide +kernel
theorem dL_law_524 : decode cL_law 524 = .ok (.invokevirtual 87, 3) := by decide +kernel
theorem dL_law_527 : decode cL_law 527 = .ok (.if_icmp .eq 51, 3) := by decide +kernel
theorem dL_law_530 : decode cL_law 530 = .ok (.iconst 0, 1) := by decide +kernel
theorem dL_law_531 : decode cL_law 531 = .ok (.ireturn, 1) := by decide +kernel
theorem dL_law_532 : decode cL_law 532 = .ok (.aload_n 1, 1) := by decide +kernel
theorem dL_law_533 : decode cL_law 533 = .ok (.aload_n 0, 1) := by decide +kernel
theorem dL_law_534 : decode cL_law 534 = .ok (.iload_n 3, 1) := by decide +kernel
theorem dL_law_535 : decode cL_law 535 = .ok (.iconst 1, 1) := by decide +kernel
theorem dL_law_536 : decode cL_law 536 = .ok (.iadd, 1) := by decide +kernel
theorem dL_law_537 : decode cL_law 537 = .ok (.iaload, 1) := by decide +kernel
theorem dL_law_538 : decode cL_law 538 = .ok (.invokevirtual 88, 3) := by decide +kernel
theorem dL_law_541 : decode cL_law 541 = .ok (.aload_n 2, 1) := by decide +kernel
theorem dL_law_542 : decode cL_law 542 = .ok (.aload_n 0, 1) := by decide +kernel
theorem dL_law_543 : decode cL_law 543 = .ok (.iload_n 3, 1) := by decide +kernel
theorem dL_law_544 : decode cL_law 544 = .ok (.iconst 1, 1) := by decide +kernel
theorem dL_law_545 : decode cL_law 545 = .ok (.iadd, 1) := by decide +kernel
theorem dL_law_546 : decode cL_law 546 = .ok (.iaload, 1) := by decide +kernel
theorem dL_law_547 : decode cL_law 547 = .ok (.invokevirtual 91, 3) := by decide +kernel
theorem dL_law_550 : decode cL_law 550 = .ok (.if_icmp .eq 28, 3) := by decide +kernel
theorem dL_law_553 : decode cL_law 553 = .ok (.iconst 0, 1) := by decide +kernel
theorem dL_law_554 : decode cL_law 554 = .ok (.ireturn, 1) := by decide +kernel
theorem dL_law_555 : decode cL_law 555 = .ok (.aload_n 1, 1) := by decide +kernel
theorem dL_law_556 : decode cL_law 556 = .ok (.aload_n 0, 1) := by decide +kernel
theorem dL_law_557 : decode cL_law 557 = .ok (.iload_n 3, 1) := by decide +kernel
theorem dL_law_558 : decode cL_law 558 = .ok (.iconst 1, 1) := by decide +kernel
theorem dL_law_559 : decode cL_law 559 = .ok (.iadd, 1) := by decide +kernel
theorem dL_law_560 : decode cL_law 560 = .ok (.iaload, 1) := by decide +kernel
theorem dL_law_561 : decode cL_law 561 = .ok (.invokevirtual 92, 3) := by decide +kernel
theorem dL_law_564 : decode cL_law 564 = .ok (.aload_n 2, 1) := by decide +kernel
theorem dL_law_565 : decode cL_law 565 = .ok (.aload_n 0, 1) := by decide +kernel
theorem dL_law_566 : decode cL_law 566 = .ok (.iload_n 3, 1) := by decide +kernel
theorem dL_law_567 : decode cL_law 567 = .ok (.iconst 1, 1) := by decide +kernel
theorem dL_law_568 : decode cL_law 568 = .ok (.iadd, 1) := by decide +kernel
theorem dL_law_569 : decode cL_law 569 = .ok (.iaload, 1) := by decide +kernel
theorem dL_law_570 : decode cL_law 570 = .ok (.invokevirtual 95, 3) := by decide +kernel
theorem dL_law_573 : decode cL_law 573 = .ok (.if_icmp .eq 5, 3) := by decide +kernel
theorem dL_law_576 : decode cL_law 576 = .ok (.iconst 0, 1) := by decide +kernel
theorem dL_law_577 : decode cL_law 577 = .ok (.ireturn, 1) := by decide +kernel
theorem dL_law_578 : decode cL_law 578 = .ok (.iinc 3 3, 3) := by decide +kernel
theorem dL_law_581 : decode cL_law 581 = .ok (.goto (-563), 3) := by decide +kernel
theorem dL_law_584 : decode cL_law 584 = .ok (.iconst 1, 1) := by decide +kernel
theorem dL_law_585 : decode cL_law 585 = .ok (.ireturn, 1) := by decide +kernel
end
section
def wA : List Cond := lw_tbl.filter goodWord
theorem wA_t {w : Cond} {i : Nat} (h : tables_1[i]? = some w) (hg : goodWord w = true) : w ∈ wA := List.mem_filter.mpr ⟨List.mem_append_right _ (List.mem_of_getElem? h), hg⟩
theorem wA_p {q : MethodName × Nat} {i : Nat} (h : lw_privs[i]? = some q) (hg : goodWord (Cond.selects q.1.cls q.1 q.1) = true) : Cond.selects q.1.cls q.1 q.1 ∈ wA := List.mem_filter.mpr ⟨List.mem_append_left _ (List.mem_map.mpr ⟨q, List.mem_of_getElem? h, rfl⟩), hg⟩
theorem wA_good : ∀ w ∈ wA, goodWord w = true := fun _ h => (List.mem_filter.mp h).2
theorem kw_0 : Cond.initialized RL ∈ wA := wA_t (i := 0) (by decide +kernel) (by decide +kernel)
theorem kw_1 : Cond.initialized RX7 ∈ wA := wA_t (i := 1) (by decide +kernel) (by decide +kernel)
theorem kw_2 : Cond.initialized RX5 ∈ wA := wA_t (i := 2) (by decide +kernel) (by decide +kernel)
theorem kw_3 : Cond.initialized RX4 ∈ wA := wA_t (i := 3) (by decide +kernel) (by decide +kernel)
theorem kw_4 : Cond.initialized RX2 ∈ wA := wA_t (i := 4) (by decide +kernel) (by decide +kernel)
theorem kw_5 : Cond.initialized RX0 ∈ wA := wA_t (i := 5) (by decide +kernel) (by decide +kernel)
theorem kw_6 : Cond.initialized RX6 ∈ wA := wA_t (i := 6) (by decide +kernel) (by decide +kernel)
theorem kw_7 : Cond.initialized RX3 ∈ wA := wA_t (i := 7) (by decide +kernel) (by decide +kernel)
theorem kw_8 : Cond.initialized RX8 ∈ wA := wA_t (i := 8) (by decide +kernel) (by decide +kernel)
theorem kw_9 : Cond.initialized RJ0 ∈ wA := wA_t (i := 9) (by decide +kernel) (by decide +kernel)
theorem kw_10 : Cond.initialized RJ1 ∈ wA := wA_t (i := 10) (by decide +kernel) (by decide +kernel)
theorem kw_11 : Cond.initialized RJ3 ∈ wA := wA_t (i := 11) (by decide +kernel) (by decide +kernel)
theorem kw_12 : Cond.initialized RJ2 ∈ wA := wA_t (i := 12) (by decide +kernel) (by decide +kernel)
theorem kw_13 : Cond.initialized "java/lang/System" ∈ wA := wA_t (i := 13) (by decide +kernel) (by decide +kernel)
theorem kw_14 : Cond.initialized "java/lang/Math" ∈ wA := wA_t (i := 14) (by decide +kernel) (by decide +kernel)
theorem kw_15 : Cond.initialized RJ7 ∈ wA := wA_t (i := 15) (by decide +kernel) (by decide +kernel)
theorem kw_16 : Cond.initialized RJ6 ∈ wA := wA_t (i := 16) (by decide +kernel) (by decide +kernel)
theorem kw_17 : Cond.initialized RX1 ∈ wA := wA_t (i := 17) (by decide +kernel) (by decide +kernel)
theorem kw_18 : Cond.classLink RL 7 RX7 ∈ wA := wA_t (i := 18) (by decide +kernel) (by decide +kernel)
theorem kw_19 : Cond.instantiable RX7 9 ∈ wA := wA_t (i := 19) (by decide +kernel) (by decide +kernel)
theorem kw_20 : Cond.methodLink RL 9 yX7_init ∈ wA := wA_t (i := 20) (by decide +kernel) (by decide +kernel)
theorem kw_21 : Cond.instanceMethod yX7_init ∈ wA := wA_t (i := 21) (by decide +kernel) (by decide +kernel)
theorem kw_22 : Cond.code yX7_init cX7_init 2 none ∈ wA := wA_t (i := 22) (by decide +kernel) (by decide +kernel)
theorem kw_23 : Cond.methodLink RX7 1 objectInit ∈ wA := wA_t (i := 23) (by decide +kernel) (by decide +kernel)
theorem kw_24 : Cond.instanceMethod objectInit ∈ wA := wA_t (i := 24) (by decide +kernel) (by decide +kernel)
theorem kw_25 : Cond.code objectInit ⟨#[0xb1]⟩ 1 none ∈ wA := wA_t (i := 25) (by decide +kernel) (by decide +kernel)
theorem kw_26 : Cond.classLink RX7 7 RX5 ∈ wA := wA_t (i := 26) (by decide +kernel) (by decide +kernel)
theorem kw_27 : Cond.instantiable RX5 7 ∈ wA := wA_t (i := 27) (by decide +kernel) (by decide +kernel)
theorem kw_29 : Cond.instanceMethod yX5_init ∈ wA := wA_t (i := 29) (by decide +kernel) (by decide +kernel)
theorem kw_30 : Cond.code yX5_init cX5_init 1 none ∈ wA := wA_t (i := 30) (by decide +kernel) (by decide +kernel)
theorem kw_31 : Cond.methodLink RX5 3 objectInit ∈ wA := wA_t (i := 31) (by decide +kernel) (by decide +kernel)
theorem kw_32 : Cond.fieldLink RX5 9 "TalkTrees$Text" "letters" "[I" ∈ wA := wA_t (i := 32) (by decide +kernel) (by decide +kernel)
theorem kw_33 : Cond.fieldLink RX5 15 "TalkTrees$Text" "length" "I" ∈ wA := wA_t (i := 33) (by decide +kernel) (by decide +kernel)
theorem kw_34 : Cond.fieldLink RX7 66 "TalkTrees$Text" "length" "I" ∈ wA := wA_t (i := 34) (by decide +kernel) (by decide +kernel)
theorem kw_35 : Cond.fieldLink RX5 41 "TalkTrees$Text" "start" "I" ∈ wA := wA_t (i := 35) (by decide +kernel) (by decide +kernel)
theorem kw_36 : Cond.fieldLink RX5 28 "TalkTrees$Text" "end" "I" ∈ wA := wA_t (i := 36) (by decide +kernel) (by decide +kernel)
theorem kw_37 : Cond.fieldLink RX5 34 "TalkTrees$Text" "kind" "I" ∈ wA := wA_t (i := 37) (by decide +kernel) (by decide +kernel)
theorem kw_38 : Cond.fieldLink RX5 80 "TalkTrees$Text" "figure" "I" ∈ wA := wA_t (i := 38) (by decide +kernel) (by decide +kernel)
theorem kw_39 : Cond.fieldLink RX5 24 "TalkTrees$Text" "sourceTold" "Z" ∈ wA := wA_t (i := 39) (by decide +kernel) (by decide +kernel)
theorem kw_40 : Cond.laysFinal RX5 "TalkTrees$Text" "letters" "[I" ∈ wA := wA_t (i := 40) (by decide +kernel) (by decide +kernel)
theorem kw_42 : Cond.lays RX5 "TalkTrees$Text" "length" "I" ∈ wA := wA_t (i := 42) (by decide +kernel) (by decide +kernel)
theorem kw_44 : Cond.lays RX5 "TalkTrees$Text" "start" "I" ∈ wA := wA_t (i := 44) (by decide +kernel) (by decide +kernel)
theorem kw_46 : Cond.lays RX5 "TalkTrees$Text" "end" "I" ∈ wA := wA_t (i := 46) (by decide +kernel) (by decide +kernel)
theorem kw_48 : Cond.lays RX5 "TalkTrees$Text" "kind" "I" ∈ wA := wA_t (i := 48) (by decide +kernel) (by decide +kernel)
theorem kw_50 : Cond.lays RX5 "TalkTrees$Text" "figure" "I" ∈ wA := wA_t (i := 50) (by decide +kernel) (by decide +kernel)
theorem kw_52 : Cond.lays RX5 "TalkTrees$Text" "sourceTold" "Z" ∈ wA := wA_t (i := 52) (by decide +kernel) (by decide +kernel)
theorem kw_55 : Cond.arrayClass .int ∈ wA := wA_t (i := 55) (by decide +kernel) (by decide +kernel)
theorem kw_56 : Cond.classLink RX7 16 RX4 ∈ wA := wA_t (i := 56) (by decide +kernel) (by decide +kernel)
theorem kw_57 : Cond.instantiable RX4 12 ∈ wA := wA_t (i := 57) (by decide +kernel) (by decide +kernel)
theorem kw_59 : Cond.instanceMethod yX4_init ∈ wA := wA_t (i := 59) (by decide +kernel) (by decide +kernel)
theorem kw_60 : Cond.code yX4_init cX4_init 1 none ∈ wA := wA_t (i := 60) (by decide +kernel) (by decide +kernel)
theorem kw_61 : Cond.methodLink RX4 3 objectInit ∈ wA := wA_t (i := 61) (by decide +kernel) (by decide +kernel)
theorem kw_62 : Cond.fieldLink RX4 9 "TalkTrees$Talk" "nodes" "I" ∈ wA := wA_t (i := 62) (by decide +kernel) (by decide +kernel)
theorem kw_63 : Cond.fieldLink RX1 21 "TalkTrees$Talk" "nodes" "I" ∈ wA := wA_t (i := 63) (by decide +kernel) (by decide +kernel)
theorem kw_64 : Cond.fieldLink RX6 40 "TalkTrees$Talk" "nodes" "I" ∈ wA := wA_t (i := 64) (by decide +kernel) (by decide +kernel)
theorem kw_65 : Cond.fieldLink RX0 60 "TalkTrees$Talk" "nodes" "I" ∈ wA := wA_t (i := 65) (by decide +kernel) (by decide +kernel)
theorem kw_66 : Cond.fieldLink RX5 83 "TalkTrees$Talk" "nodes" "I" ∈ wA := wA_t (i := 66) (by decide +kernel) (by decide +kernel)
theorem kw_67 : Cond.fieldLink RX7 215 "TalkTrees$Talk" "nodes" "I" ∈ wA := wA_t (i := 67) (by decide +kernel) (by decide +kernel)
theorem kw_68 : Cond.fieldLink RX1 15 "TalkTrees$Talk" "source" "I" ∈ wA := wA_t (i := 68) (by decide +kernel) (by decide +kernel)
theorem kw_69 : Cond.fieldLink RX4 28 "TalkTrees$Talk" "source" "I" ∈ wA := wA_t (i := 69) (by decide +kernel) (by decide +kernel)
theorem kw_70 : Cond.fieldLink RX5 85 "TalkTrees$Talk" "source" "I" ∈ wA := wA_t (i := 70) (by decide +kernel) (by decide +kernel)
theorem kw_71 : Cond.fieldLink RX7 221 "TalkTrees$Talk" "source" "I" ∈ wA := wA_t (i := 71) (by decide +kernel) (by decide +kernel)
theorem kw_72 : Cond.fieldLink RX4 31 "TalkTrees$Talk" "limit" "I" ∈ wA := wA_t (i := 72) (by decide +kernel) (by decide +kernel)
theorem kw_73 : Cond.fieldLink RX0 42 "TalkTrees$Talk" "limit" "I" ∈ wA := wA_t (i := 73) (by decide +kernel) (by decide +kernel)
theorem kw_74 : Cond.fieldLink RX5 87 "TalkTrees$Talk" "limit" "I" ∈ wA := wA_t (i := 74) (by decide +kernel) (by decide +kernel)
theorem kw_75 : Cond.fieldLink RX7 139 "TalkTrees$Talk" "limit" "I" ∈ wA := wA_t (i := 75) (by decide +kernel) (by decide +kernel)
theorem kw_76 : Cond.fieldLink RX4 34 "TalkTrees$Talk" "links" "I" ∈ wA := wA_t (i := 76) (by decide +kernel) (by decide +kernel)
theorem kw_77 : Cond.fieldLink RX6 47 "TalkTrees$Talk" "links" "I" ∈ wA := wA_t (i := 77) (by decide +kernel) (by decide +kernel)
theorem kw_78 : Cond.fieldLink RX1 52 "TalkTrees$Talk" "links" "I" ∈ wA := wA_t (i := 78) (by decide +kernel) (by decide +kernel)
theorem kw_79 : Cond.fieldLink RX5 66 "TalkTrees$Talk" "links" "I" ∈ wA := wA_t (i := 79) (by decide +kernel) (by decide +kernel)
theorem kw_80 : Cond.fieldLink RX0 97 "TalkTrees$Talk" "links" "I" ∈ wA := wA_t (i := 80) (by decide +kernel) (by decide +kernel)
theorem kw_81 : Cond.fieldLink RX7 218 "TalkTrees$Talk" "links" "I" ∈ wA := wA_t (i := 81) (by decide +kernel) (by decide +kernel)
theorem kw_82 : Cond.fieldLink RX4 15 "TalkTrees$Talk" "first" "[I" ∈ wA := wA_t (i := 82) (by decide +kernel) (by decide +kernel)
theorem kw_83 : Cond.fieldLink RX6 50 "TalkTrees$Talk" "first" "[I" ∈ wA := wA_t (i := 83) (by decide +kernel) (by decide +kernel)
theorem kw_84 : Cond.fieldLink RX7 149 "TalkTrees$Talk" "first" "[I" ∈ wA := wA_t (i := 84) (by decide +kernel) (by decide +kernel)
theorem kw_85 : Cond.fieldLink RX4 19 "TalkTrees$Talk" "second" "[I" ∈ wA := wA_t (i := 85) (by decide +kernel) (by decide +kernel)
theorem kw_86 : Cond.fieldLink RX6 53 "TalkTrees$Talk" "second" "[I" ∈ wA := wA_t (i := 86) (by decide +kernel) (by decide +kernel)
theorem kw_87 : Cond.fieldLink RX7 153 "TalkTrees$Talk" "second" "[I" ∈ wA := wA_t (i := 87) (by decide +kernel) (by decide +kernel)
theorem kw_88 : Cond.fieldLink RX4 22 "TalkTrees$Talk" "cost" "[I" ∈ wA := wA_t (i := 88) (by decide +kernel) (by decide +kernel)
theorem kw_89 : Cond.fieldLink RX6 70 "TalkTrees$Talk" "cost" "[I" ∈ wA := wA_t (i := 89) (by decide +kernel) (by decide +kernel)
theorem kw_90 : Cond.fieldLink RX1 59 "TalkTrees$Talk" "cost" "[I" ∈ wA := wA_t (i := 90) (by decide +kernel) (by decide +kernel)
theorem kw_91 : Cond.fieldLink RX7 156 "TalkTrees$Talk" "cost" "[I" ∈ wA := wA_t (i := 91) (by decide +kernel) (by decide +kernel)
theorem kw_92 : Cond.fieldLink RX1 9 "TalkTrees$Talk" "members" "I" ∈ wA := wA_t (i := 92) (by decide +kernel) (by decide +kernel)
theorem kw_93 : Cond.fieldLink RX0 28 "TalkTrees$Talk" "members" "I" ∈ wA := wA_t (i := 93) (by decide +kernel) (by decide +kernel)
theorem kw_94 : Cond.fieldLink RX4 37 "TalkTrees$Talk" "members" "I" ∈ wA := wA_t (i := 94) (by decide +kernel) (by decide +kernel)
theorem kw_95 : Cond.fieldLink RX7 209 "TalkTrees$Talk" "members" "I" ∈ wA := wA_t (i := 95) (by decide +kernel) (by decide +kernel)
theorem kw_96 : Cond.fieldLink RX0 18 "TalkTrees$Talk" "tree" "I" ∈ wA := wA_t (i := 96) (by decide +kernel) (by decide +kernel)
theorem kw_97 : Cond.fieldLink RX1 18 "TalkTrees$Talk" "tree" "I" ∈ wA := wA_t (i := 97) (by decide +kernel) (by decide +kernel)
theorem kw_98 : Cond.fieldLink RX4 40 "TalkTrees$Talk" "tree" "I" ∈ wA := wA_t (i := 98) (by decide +kernel) (by decide +kernel)
theorem kw_99 : Cond.fieldLink RX7 102 "TalkTrees$Talk" "tree" "I" ∈ wA := wA_t (i := 99) (by decide +kernel) (by decide +kernel)
theorem kw_100 : Cond.fieldLink RX4 43 "TalkTrees$Talk" "down" "I" ∈ wA := wA_t (i := 100) (by decide +kernel) (by decide +kernel)
theorem kw_101 : Cond.fieldLink RX0 80 "TalkTrees$Talk" "down" "I" ∈ wA := wA_t (i := 101) (by decide +kernel) (by decide +kernel)
theorem kw_102 : Cond.fieldLink RX7 123 "TalkTrees$Talk" "down" "I" ∈ wA := wA_t (i := 102) (by decide +kernel) (by decide +kernel)
theorem kw_103 : Cond.fieldLink RX4 46 "TalkTrees$Talk" "markCount" "I" ∈ wA := wA_t (i := 103) (by decide +kernel) (by decide +kernel)
theorem kw_104 : Cond.fieldLink RX0 45 "TalkTrees$Talk" "markCount" "I" ∈ wA := wA_t (i := 104) (by decide +kernel) (by decide +kernel)
theorem kw_105 : Cond.fieldLink RX7 224 "TalkTrees$Talk" "markCount" "I" ∈ wA := wA_t (i := 105) (by decide +kernel) (by decide +kernel)
theorem kw_106 : Cond.fieldLink RX4 25 "TalkTrees$Talk" "marks" "[I" ∈ wA := wA_t (i := 106) (by decide +kernel) (by decide +kernel)
theorem kw_107 : Cond.lays RX4 "TalkTrees$Talk" "nodes" "I" ∈ wA := wA_t (i := 107) (by decide +kernel) (by decide +kernel)
theorem kw_109 : Cond.lays RX4 "TalkTrees$Talk" "source" "I" ∈ wA := wA_t (i := 109) (by decide +kernel) (by decide +kernel)
theorem kw_111 : Cond.lays RX4 "TalkTrees$Talk" "limit" "I" ∈ wA := wA_t (i := 111) (by decide +kernel) (by decide +kernel)
theorem kw_113 : Cond.lays RX4 "TalkTrees$Talk" "links" "I" ∈ wA := wA_t (i := 113) (by decide +kernel) (by decide +kernel)
theorem kw_115 : Cond.laysFinal RX4 "TalkTrees$Talk" "first" "[I" ∈ wA := wA_t (i := 115) (by decide +kernel) (by decide +kernel)
theorem kw_117 : Cond.laysFinal RX4 "TalkTrees$Talk" "second" "[I" ∈ wA := wA_t (i := 117) (by decide +kernel) (by decide +kernel)
theorem kw_119 : Cond.laysFinal RX4 "TalkTrees$Talk" "cost" "[I" ∈ wA := wA_t (i := 119) (by decide +kernel) (by decide +kernel)
theorem kw_121 : Cond.lays RX4 "TalkTrees$Talk" "members" "I" ∈ wA := wA_t (i := 121) (by decide +kernel) (by decide +kernel)
theorem kw_123 : Cond.lays RX4 "TalkTrees$Talk" "tree" "I" ∈ wA := wA_t (i := 123) (by decide +kernel) (by decide +kernel)
theorem kw_125 : Cond.lays RX4 "TalkTrees$Talk" "down" "I" ∈ wA := wA_t (i := 125) (by decide +kernel) (by decide +kernel)
theorem kw_127 : Cond.lays RX4 "TalkTrees$Talk" "markCount" "I" ∈ wA := wA_t (i := 127) (by decide +kernel) (by decide +kernel)
theorem kw_129 : Cond.laysFinal RX4 "TalkTrees$Talk" "marks" "[I" ∈ wA := wA_t (i := 129) (by decide +kernel) (by decide +kernel)
theorem kw_132 : Cond.classLink RX7 26 RX2 ∈ wA := wA_t (i := 132) (by decide +kernel) (by decide +kernel)
theorem kw_133 : Cond.instantiable RX2 3 ∈ wA := wA_t (i := 133) (by decide +kernel) (by decide +kernel)
theorem kw_134 : Cond.methodLink RX7 28 yX2_init ∈ wA := wA_t (i := 134) (by decide +kernel) (by decide +kernel)
theorem kw_135 : Cond.instanceMethod yX2_init ∈ wA := wA_t (i := 135) (by decide +kernel) (by decide +kernel)
theorem kw_136 : Cond.code yX2_init cX2_init 2 none ∈ wA := wA_t (i := 136) (by decide +kernel) (by decide +kernel)
theorem kw_137 : Cond.methodLink RX2 3 objectInit ∈ wA := wA_t (i := 137) (by decide +kernel) (by decide +kernel)
theorem kw_138 : Cond.classLink RX2 9 RX4 ∈ wA := wA_t (i := 138) (by decide +kernel) (by decide +kernel)
theorem kw_141 : Cond.fieldLink RX2 11 "TalkTrees$Past" "known" "[LTalkTrees$Talk;" ∈ wA := wA_t (i := 141) (by decide +kernel) (by decide +kernel)
theorem kw_142 : Cond.fieldLink RX2 26 "TalkTrees$Past" "size" "I" ∈ wA := wA_t (i := 142) (by decide +kernel) (by decide +kernel)
theorem kw_143 : Cond.fieldLink RX7 146 "TalkTrees$Past" "size" "I" ∈ wA := wA_t (i := 143) (by decide +kernel) (by decide +kernel)
theorem kw_144 : Cond.fieldLink RX2 18 "TalkTrees$Past" "next" "I" ∈ wA := wA_t (i := 144) (by decide +kernel) (by decide +kernel)
theorem kw_145 : Cond.laysFinal RX2 "TalkTrees$Past" "known" "[LTalkTrees$Talk;" ∈ wA := wA_t (i := 145) (by decide +kernel) (by decide +kernel)
theorem kw_147 : Cond.lays RX2 "TalkTrees$Past" "size" "I" ∈ wA := wA_t (i := 147) (by decide +kernel) (by decide +kernel)
theorem kw_149 : Cond.lays RX2 "TalkTrees$Past" "next" "I" ∈ wA := wA_t (i := 149) (by decide +kernel) (by decide +kernel)
theorem kw_152 : Cond.classLink RX7 33 RX0 ∈ wA := wA_t (i := 152) (by decide +kernel) (by decide +kernel)
theorem kw_153 : Cond.instantiable RX0 1 ∈ wA := wA_t (i := 153) (by decide +kernel) (by decide +kernel)
theorem kw_155 : Cond.instanceMethod yX0_init ∈ wA := wA_t (i := 155) (by decide +kernel) (by decide +kernel)
theorem kw_156 : Cond.code yX0_init cX0_init 1 none ∈ wA := wA_t (i := 156) (by decide +kernel) (by decide +kernel)
theorem kw_157 : Cond.methodLink RX0 3 objectInit ∈ wA := wA_t (i := 157) (by decide +kernel) (by decide +kernel)
theorem kw_158 : Cond.classLink RX0 9 RX6 ∈ wA := wA_t (i := 158) (by decide +kernel) (by decide +kernel)
theorem kw_159 : Cond.instantiable RX6 2 ∈ wA := wA_t (i := 159) (by decide +kernel) (by decide +kernel)
theorem kw_161 : Cond.instanceMethod yX6_init ∈ wA := wA_t (i := 161) (by decide +kernel) (by decide +kernel)
theorem kw_162 : Cond.code yX6_init cX6_init 1 none ∈ wA := wA_t (i := 162) (by decide +kernel) (by decide +kernel)
theorem kw_163 : Cond.methodLink RX6 3 objectInit ∈ wA := wA_t (i := 163) (by decide +kernel) (by decide +kernel)
theorem kw_164 : Cond.fieldLink RX6 9 "TalkTrees$Ways" "weights" "[I" ∈ wA := wA_t (i := 164) (by decide +kernel) (by decide +kernel)
theorem kw_165 : Cond.fieldLink RX6 29 "TalkTrees$Ways" "usable" "I" ∈ wA := wA_t (i := 165) (by decide +kernel) (by decide +kernel)
theorem kw_166 : Cond.laysFinal RX6 "TalkTrees$Ways" "weights" "[I" ∈ wA := wA_t (i := 166) (by decide +kernel) (by decide +kernel)
theorem kw_168 : Cond.lays RX6 "TalkTrees$Ways" "usable" "I" ∈ wA := wA_t (i := 168) (by decide +kernel) (by decide +kernel)
theorem kw_171 : Cond.fieldLink RX0 12 "TalkTrees$Builder" "ways" "LTalkTrees$Ways;" ∈ wA := wA_t (i := 171) (by decide +kernel) (by decide +kernel)
theorem kw_172 : Cond.laysFinal RX0 "TalkTrees$Builder" "ways" "LTalkTrees$Ways;" ∈ wA := wA_t (i := 172) (by decide +kernel) (by decide +kernel)
theorem kw_175 : Cond.classLink RX7 40 RX6 ∈ wA := wA_t (i := 175) (by decide +kernel) (by decide +kernel)
theorem kw_177 : Cond.classLink RX7 47 RX3 ∈ wA := wA_t (i := 177) (by decide +kernel) (by decide +kernel)
theorem kw_178 : Cond.instantiable RX3 3 ∈ wA := wA_t (i := 178) (by decide +kernel) (by decide +kernel)
theorem kw_180 : Cond.instanceMethod yX3_init ∈ wA := wA_t (i := 180) (by decide +kernel) (by decide +kernel)
theorem kw_181 : Cond.code yX3_init cX3_init 1 none ∈ wA := wA_t (i := 181) (by decide +kernel) (by decide +kernel)
theorem kw_182 : Cond.methodLink RX3 3 objectInit ∈ wA := wA_t (i := 182) (by decide +kernel) (by decide +kernel)
theorem kw_183 : Cond.fieldLink RX3 9 "TalkTrees$Sights" "whats" "[I" ∈ wA := wA_t (i := 183) (by decide +kernel) (by decide +kernel)
theorem kw_184 : Cond.fieldLink RX3 15 "TalkTrees$Sights" "numbers" "[I" ∈ wA := wA_t (i := 184) (by decide +kernel) (by decide +kernel)
theorem kw_185 : Cond.fieldLink RX3 18 "TalkTrees$Sights" "size" "I" ∈ wA := wA_t (i := 185) (by decide +kernel) (by decide +kernel)
theorem kw_186 : Cond.fieldLink RX7 201 "TalkTrees$Sights" "size" "I" ∈ wA := wA_t (i := 186) (by decide +kernel) (by decide +kernel)
theorem kw_187 : Cond.laysFinal RX3 "TalkTrees$Sights" "whats" "[I" ∈ wA := wA_t (i := 187) (by decide +kernel) (by decide +kernel)
theorem kw_189 : Cond.laysFinal RX3 "TalkTrees$Sights" "numbers" "[I" ∈ wA := wA_t (i := 189) (by decide +kernel) (by decide +kernel)
theorem kw_191 : Cond.lays RX3 "TalkTrees$Sights" "size" "I" ∈ wA := wA_t (i := 191) (by decide +kernel) (by decide +kernel)
theorem kw_194 : Cond.fieldLink RX7 10 "TalkTrees" "text" "LTalkTrees$Text;" ∈ wA := wA_t (i := 194) (by decide +kernel) (by decide +kernel)
theorem kw_195 : Cond.fieldLink RX7 19 "TalkTrees" "now" "LTalkTrees$Talk;" ∈ wA := wA_t (i := 195) (by decide +kernel) (by decide +kernel)
theorem kw_196 : Cond.fieldLink RX7 23 "TalkTrees" "told" "LTalkTrees$Talk;" ∈ wA := wA_t (i := 196) (by decide +kernel) (by decide +kernel)
theorem kw_197 : Cond.fieldLink RX7 29 "TalkTrees" "past" "LTalkTrees$Past;" ∈ wA := wA_t (i := 197) (by decide +kernel) (by decide +kernel)
theorem kw_198 : Cond.fieldLink RX7 36 "TalkTrees" "builder" "LTalkTrees$Builder;" ∈ wA := wA_t (i := 198) (by decide +kernel) (by decide +kernel)
theorem kw_199 : Cond.fieldLink RX7 43 "TalkTrees" "ways" "LTalkTrees$Ways;" ∈ wA := wA_t (i := 199) (by decide +kernel) (by decide +kernel)
theorem kw_200 : Cond.fieldLink RX7 50 "TalkTrees" "sights" "LTalkTrees$Sights;" ∈ wA := wA_t (i := 200) (by decide +kernel) (by decide +kernel)
theorem kw_201 : Cond.fieldLink RX7 54 "TalkTrees" "images" "[LTalkTrees$Talk;" ∈ wA := wA_t (i := 201) (by decide +kernel) (by decide +kernel)
theorem kw_202 : Cond.fieldLink RX7 58 "TalkTrees" "kept" "[Z" ∈ wA := wA_t (i := 202) (by decide +kernel) (by decide +kernel)
theorem kw_203 : Cond.laysFinal RX7 "TalkTrees" "text" "LTalkTrees$Text;" ∈ wA := wA_t (i := 203) (by decide +kernel) (by decide +kernel)
theorem kw_205 : Cond.laysFinal RX7 "TalkTrees" "now" "LTalkTrees$Talk;" ∈ wA := wA_t (i := 205) (by decide +kernel) (by decide +kernel)
theorem kw_207 : Cond.laysFinal RX7 "TalkTrees" "told" "LTalkTrees$Talk;" ∈ wA := wA_t (i := 207) (by decide +kernel) (by decide +kernel)
theorem kw_209 : Cond.laysFinal RX7 "TalkTrees" "past" "LTalkTrees$Past;" ∈ wA := wA_t (i := 209) (by decide +kernel) (by decide +kernel)
theorem kw_211 : Cond.laysFinal RX7 "TalkTrees" "builder" "LTalkTrees$Builder;" ∈ wA := wA_t (i := 211) (by decide +kernel) (by decide +kernel)
theorem kw_213 : Cond.laysFinal RX7 "TalkTrees" "ways" "LTalkTrees$Ways;" ∈ wA := wA_t (i := 213) (by decide +kernel) (by decide +kernel)
theorem kw_215 : Cond.laysFinal RX7 "TalkTrees" "sights" "LTalkTrees$Sights;" ∈ wA := wA_t (i := 215) (by decide +kernel) (by decide +kernel)
theorem kw_217 : Cond.laysFinal RX7 "TalkTrees" "images" "[LTalkTrees$Talk;" ∈ wA := wA_t (i := 217) (by decide +kernel) (by decide +kernel)
theorem kw_219 : Cond.laysFinal RX7 "TalkTrees" "kept" "[Z" ∈ wA := wA_t (i := 219) (by decide +kernel) (by decide +kernel)
theorem kw_222 : Cond.arrayClass .boolean ∈ wA := wA_t (i := 222) (by decide +kernel) (by decide +kernel)
theorem kw_223 : Cond.methodLink RL 13 yX7_type ∈ wA := wA_t (i := 223) (by decide +kernel) (by decide +kernel)
theorem kw_224 : Cond.instanceMethod yX7_type ∈ wA := wA_t (i := 224) (by decide +kernel) (by decide +kernel)
theorem kw_225 : Cond.selects RX7 yX7_type yX7_type ∈ wA := wA_t (i := 225) (by decide +kernel) (by decide +kernel)
theorem kw_226 : Cond.code yX7_type cX7_type 2 (some .int) ∈ wA := wA_t (i := 226) (by decide +kernel) (by decide +kernel)
theorem kw_227 : Cond.methodLink RX7 62 yX5_append ∈ wA := wA_t (i := 227) (by decide +kernel) (by decide +kernel)
theorem kw_228 : Cond.instanceMethod yX5_append ∈ wA := wA_t (i := 228) (by decide +kernel) (by decide +kernel)
theorem kw_229 : Cond.selects RX5 yX5_append yX5_append ∈ wA := wA_t (i := 229) (by decide +kernel) (by decide +kernel)
theorem kw_230 : Cond.code yX5_append cX5_append 2 (some .boolean) ∈ wA := wA_t (i := 230) (by decide +kernel) (by decide +kernel)
theorem kw_231 : Cond.methodLink RL 18 yX7_clear ∈ wA := wA_t (i := 231) (by decide +kernel) (by decide +kernel)
theorem kw_232 : Cond.instanceMethod yX7_clear ∈ wA := wA_t (i := 232) (by decide +kernel) (by decide +kernel)
theorem kw_233 : Cond.selects RX7 yX7_clear yX7_clear ∈ wA := wA_t (i := 233) (by decide +kernel) (by decide +kernel)
theorem kw_234 : Cond.code yX7_clear cX7_clear 1 (some .int) ∈ wA := wA_t (i := 234) (by decide +kernel) (by decide +kernel)
theorem kw_235 : Cond.methodLink RX7 70 yX5_empty ∈ wA := wA_t (i := 235) (by decide +kernel) (by decide +kernel)
theorem kw_236 : Cond.instanceMethod yX5_empty ∈ wA := wA_t (i := 236) (by decide +kernel) (by decide +kernel)
theorem kw_237 : Cond.selects RX5 yX5_empty yX5_empty ∈ wA := wA_t (i := 237) (by decide +kernel) (by decide +kernel)
theorem kw_238 : Cond.code yX5_empty cX5_empty 2 (some .int) ∈ wA := wA_t (i := 238) (by decide +kernel) (by decide +kernel)
theorem kw_239 : Cond.methodLink RL 23 yX7_tells ∈ wA := wA_t (i := 239) (by decide +kernel) (by decide +kernel)
theorem kw_240 : Cond.instanceMethod yX7_tells ∈ wA := wA_t (i := 240) (by decide +kernel) (by decide +kernel)
theorem kw_241 : Cond.selects RX7 yX7_tells yX7_tells ∈ wA := wA_t (i := 241) (by decide +kernel) (by decide +kernel)
theorem kw_242 : Cond.code yX7_tells cX7_tells 2 (some .int) ∈ wA := wA_t (i := 242) (by decide +kernel) (by decide +kernel)
theorem kw_243 : Cond.methodLink RX7 74 yX5_read ∈ wA := wA_t (i := 243) (by decide +kernel) (by decide +kernel)
theorem kw_244 : Cond.instanceMethod yX5_read ∈ wA := wA_t (i := 244) (by decide +kernel) (by decide +kernel)
theorem kw_245 : Cond.selects RX5 yX5_read yX5_read ∈ wA := wA_t (i := 245) (by decide +kernel) (by decide +kernel)
theorem kw_246 : Cond.code yX5_read cX5_read 3 (some .int) ∈ wA := wA_t (i := 246) (by decide +kernel) (by decide +kernel)
theorem kw_247 : Cond.methodLink RX5 19 yX4_beAsAtFirst ∈ wA := wA_t (i := 247) (by decide +kernel) (by decide +kernel)
theorem kw_248 : Cond.instanceMethod yX4_beAsAtFirst ∈ wA := wA_t (i := 248) (by decide +kernel) (by decide +kernel)
theorem kw_249 : Cond.selects RX4 yX4_beAsAtFirst yX4_beAsAtFirst ∈ wA := wA_t (i := 249) (by decide +kernel) (by decide +kernel)
theorem kw_250 : Cond.code yX4_beAsAtFirst cX4_beAsAtFirst 1 none ∈ wA := wA_t (i := 250) (by decide +kernel) (by decide +kernel)
theorem kw_251 : Cond.methodLink RX5 31 yX5_takeToken ∈ wA := wA_t (i := 251) (by decide +kernel) (by decide +kernel)
theorem kw_253 : Cond.instanceMethod yX5_takeToken ∈ wA := wA_t (i := 253) (by decide +kernel) (by decide +kernel)
theorem kw_254 : Cond.code yX5_takeToken cX5_takeToken 1 none ∈ wA := wA_t (i := 254) (by decide +kernel) (by decide +kernel)
theorem kw_255 : Cond.methodLink RX5 96 yX5_isFigure ∈ wA := wA_t (i := 255) (by decide +kernel) (by decide +kernel)
theorem kw_257 : Cond.instanceMethod yX5_isFigure ∈ wA := wA_t (i := 257) (by decide +kernel) (by decide +kernel)
theorem kw_258 : Cond.code yX5_isFigure cX5_isFigure 2 (some .boolean) ∈ wA := wA_t (i := 258) (by decide +kernel) (by decide +kernel)
theorem kw_259 : Cond.methodLink RX5 100 yX5_isSmallLetter ∈ wA := wA_t (i := 259) (by decide +kernel) (by decide +kernel)
theorem kw_261 : Cond.instanceMethod yX5_isSmallLetter ∈ wA := wA_t (i := 261) (by decide +kernel) (by decide +kernel)
theorem kw_262 : Cond.code yX5_isSmallLetter cX5_isSmallLetter 2 (some .boolean) ∈ wA := wA_t (i := 262) (by decide +kernel) (by decide +kernel)
theorem kw_263 : Cond.methodLink RX5 37 yX5_readItem ∈ wA := wA_t (i := 263) (by decide +kernel) (by decide +kernel)
theorem kw_265 : Cond.instanceMethod yX5_readItem ∈ wA := wA_t (i := 265) (by decide +kernel) (by decide +kernel)
theorem kw_266 : Cond.code yX5_readItem cX5_readItem 4 (some .boolean) ∈ wA := wA_t (i := 266) (by decide +kernel) (by decide +kernel)
theorem kw_268 : Cond.methodLink RX5 46 yX5_isWord ∈ wA := wA_t (i := 268) (by decide +kernel) (by decide +kernel)
theorem kw_270 : Cond.instanceMethod yX5_isWord ∈ wA := wA_t (i := 270) (by decide +kernel) (by decide +kernel)
theorem kw_271 : Cond.code yX5_isWord cX5_isWord 3 (some .boolean) ∈ wA := wA_t (i := 271) (by decide +kernel) (by decide +kernel)
theorem kw_272 : Cond.methodLink RX5 103 yJ0_length_8abf5 ∈ wA := wA_t (i := 272) (by decide +kernel) (by decide +kernel)
theorem kw_273 : Cond.instanceMethod yJ0_length_8abf5 ∈ wA := wA_t (i := 273) (by decide +kernel) (by decide +kernel)
theorem kw_274 : Cond.selects RJ0 yJ0_length_8abf5 yJ0_length_8abf5 ∈ wA := wA_t (i := 274) (by decide +kernel) (by decide +kernel)
theorem kw_275 : Cond.code yJ0_length_8abf5 cJ0_length_8abf5 1 (some .int) ∈ wA := wA_t (i := 275) (by decide +kernel) (by decide +kernel)
theorem kw_276 : Cond.methodLink RJ0 335 yJ0_coder_7d493 ∈ wA := wA_t (i := 276) (by decide +kernel) (by decide +kernel)
theorem kw_277 : Cond.instanceMethod yJ0_coder_7d493 ∈ wA := wA_t (i := 277) (by decide +kernel) (by decide +kernel)
theorem kw_278 : Cond.selects RJ0 yJ0_coder_7d493 yJ0_coder_7d493 ∈ wA := wA_t (i := 278) (by decide +kernel) (by decide +kernel)
theorem kw_279 : Cond.code yJ0_coder_7d493 cJ0_coder_7d493 1 (some .byte) ∈ wA := wA_t (i := 279) (by decide +kernel) (by decide +kernel)
theorem kw_280 : Cond.fieldLink RJ0 38 "java/lang/String" "COMPACT_STRINGS" "Z" ∈ wA := wA_t (i := 280) (by decide +kernel) (by decide +kernel)
theorem kw_282 : Cond.methodLink RX5 108 yJ0_charAt_5068e ∈ wA := wA_t (i := 282) (by decide +kernel) (by decide +kernel)
theorem kw_283 : Cond.instanceMethod yJ0_charAt_5068e ∈ wA := wA_t (i := 283) (by decide +kernel) (by decide +kernel)
theorem kw_284 : Cond.selects RJ0 yJ0_charAt_5068e yJ0_charAt_5068e ∈ wA := wA_t (i := 284) (by decide +kernel) (by decide +kernel)
theorem kw_285 : Cond.code yJ0_charAt_5068e cJ0_charAt_5068e 2 (some .char) ∈ wA := wA_t (i := 285) (by decide +kernel) (by decide +kernel)
theorem kw_286 : Cond.methodLink RJ0 492 yJ0_isLatin1_aae02 ∈ wA := wA_t (i := 286) (by decide +kernel) (by decide +kernel)
theorem kw_287 : Cond.instanceMethod yJ0_isLatin1_aae02 ∈ wA := wA_t (i := 287) (by decide +kernel) (by decide +kernel)
theorem kw_288 : Cond.selects RJ0 yJ0_isLatin1_aae02 yJ0_isLatin1_aae02 ∈ wA := wA_t (i := 288) (by decide +kernel) (by decide +kernel)
theorem kw_289 : Cond.code yJ0_isLatin1_aae02 cJ0_isLatin1_aae02 1 (some .boolean) ∈ wA := wA_t (i := 289) (by decide +kernel) (by decide +kernel)
theorem kw_290 : Cond.methodLink RJ0 495 yJ1_charAt_3b067 ∈ wA := wA_t (i := 290) (by decide +kernel) (by decide +kernel)
theorem kw_291 : Cond.static yJ1_charAt_3b067 ∈ wA := wA_t (i := 291) (by decide +kernel) (by decide +kernel)
theorem kw_292 : Cond.code yJ1_charAt_3b067 cJ1_charAt_3b067 2 (some .char) ∈ wA := wA_t (i := 292) (by decide +kernel) (by decide +kernel)
theorem kw_293 : Cond.methodLink RJ1 9 yJ0_checkIndex_df160 ∈ wA := wA_t (i := 293) (by decide +kernel) (by decide +kernel)
theorem kw_294 : Cond.static yJ0_checkIndex_df160 ∈ wA := wA_t (i := 294) (by decide +kernel) (by decide +kernel)
theorem kw_295 : Cond.code yJ0_checkIndex_df160 cJ0_checkIndex_df160 2 none ∈ wA := wA_t (i := 295) (by decide +kernel) (by decide +kernel)
theorem kw_296 : Cond.fieldLink RJ0 1053 "jdk/internal/util/Preconditions" "SIOOBE_FORMATTER" "Ljava/util/function/BiFunction;" ∈ wA := wA_t (i := 296) (by decide +kernel) (by decide +kernel)
theorem kw_298 : Cond.methodLink RJ0 1059 yJ3_checkIndex_8e157 ∈ wA := wA_t (i := 298) (by decide +kernel) (by decide +kernel)
theorem kw_299 : Cond.static yJ3_checkIndex_8e157 ∈ wA := wA_t (i := 299) (by decide +kernel) (by decide +kernel)
theorem kw_300 : Cond.code yJ3_checkIndex_8e157 cJ3_checkIndex_8e157 3 (some .int) ∈ wA := wA_t (i := 300) (by decide +kernel) (by decide +kernel)
theorem kw_301 : Cond.methodLink RJ0 498 yJ2_charAt_3b067 ∈ wA := wA_t (i := 301) (by decide +kernel) (by decide +kernel)
theorem kw_302 : Cond.static yJ2_charAt_3b067 ∈ wA := wA_t (i := 302) (by decide +kernel) (by decide +kernel)
theorem kw_303 : Cond.code yJ2_charAt_3b067 cJ2_charAt_3b067 2 (some .char) ∈ wA := wA_t (i := 303) (by decide +kernel) (by decide +kernel)
theorem kw_304 : Cond.methodLink RJ2 67 yJ2_checkIndex_2214a ∈ wA := wA_t (i := 304) (by decide +kernel) (by decide +kernel)
theorem kw_305 : Cond.static yJ2_checkIndex_2214a ∈ wA := wA_t (i := 305) (by decide +kernel) (by decide +kernel)
theorem kw_306 : Cond.code yJ2_checkIndex_2214a cJ2_checkIndex_2214a 2 none ∈ wA := wA_t (i := 306) (by decide +kernel) (by decide +kernel)
theorem kw_307 : Cond.methodLink RJ2 48 yJ2_length_9d52b ∈ wA := wA_t (i := 307) (by decide +kernel) (by decide +kernel)
theorem kw_308 : Cond.static yJ2_length_9d52b ∈ wA := wA_t (i := 308) (by decide +kernel) (by decide +kernel)
theorem kw_309 : Cond.code yJ2_length_9d52b cJ2_length_9d52b 1 (some .int) ∈ wA := wA_t (i := 309) (by decide +kernel) (by decide +kernel)
theorem kw_310 : Cond.methodLink RJ2 414 yJ0_checkIndex_df160 ∈ wA := wA_t (i := 310) (by decide +kernel) (by decide +kernel)
theorem kw_311 : Cond.methodLink RJ2 71 yJ2_getChar_3b067 ∈ wA := wA_t (i := 311) (by decide +kernel) (by decide +kernel)
theorem kw_312 : Cond.static yJ2_getChar_3b067 ∈ wA := wA_t (i := 312) (by decide +kernel) (by decide +kernel)
theorem kw_313 : Cond.code yJ2_getChar_3b067 cJ2_getChar_3b067 2 (some .char) ∈ wA := wA_t (i := 313) (by decide +kernel) (by decide +kernel)
theorem kw_314 : Cond.fieldLink RJ2 44 "java/lang/StringUTF16" "$assertionsDisabled" "Z" ∈ wA := wA_t (i := 314) (by decide +kernel) (by decide +kernel)
theorem kw_316 : Cond.fieldLink RJ2 59 "java/lang/StringUTF16" "HI_BYTE_SHIFT" "I" ∈ wA := wA_t (i := 316) (by decide +kernel) (by decide +kernel)
theorem kw_318 : Cond.fieldLink RJ2 63 "java/lang/StringUTF16" "LO_BYTE_SHIFT" "I" ∈ wA := wA_t (i := 318) (by decide +kernel) (by decide +kernel)
theorem kw_320 : Cond.methodLink RX5 50 yX5_readNodes ∈ wA := wA_t (i := 320) (by decide +kernel) (by decide +kernel)
theorem kw_322 : Cond.instanceMethod yX5_readNodes ∈ wA := wA_t (i := 322) (by decide +kernel) (by decide +kernel)
theorem kw_323 : Cond.code yX5_readNodes cX5_readNodes 2 (some .boolean) ∈ wA := wA_t (i := 323) (by decide +kernel) (by decide +kernel)
theorem kw_324 : Cond.methodLink RX5 76 yX5_takeFigure ∈ wA := wA_t (i := 324) (by decide +kernel) (by decide +kernel)
theorem kw_326 : Cond.instanceMethod yX5_takeFigure ∈ wA := wA_t (i := 326) (by decide +kernel) (by decide +kernel)
theorem kw_327 : Cond.code yX5_takeFigure cX5_takeFigure 3 (some .boolean) ∈ wA := wA_t (i := 327) (by decide +kernel) (by decide +kernel)
theorem kw_329 : Cond.methodLink RX5 56 yX5_readSource ∈ wA := wA_t (i := 329) (by decide +kernel) (by decide +kernel)
theorem kw_331 : Cond.instanceMethod yX5_readSource ∈ wA := wA_t (i := 331) (by decide +kernel) (by decide +kernel)
theorem kw_332 : Cond.code yX5_readSource cX5_readSource 2 (some .boolean) ∈ wA := wA_t (i := 332) (by decide +kernel) (by decide +kernel)
theorem kw_334 : Cond.methodLink RX5 61 yX5_readLimit ∈ wA := wA_t (i := 334) (by decide +kernel) (by decide +kernel)
theorem kw_336 : Cond.instanceMethod yX5_readLimit ∈ wA := wA_t (i := 336) (by decide +kernel) (by decide +kernel)
theorem kw_337 : Cond.code yX5_readLimit cX5_readLimit 2 (some .boolean) ∈ wA := wA_t (i := 337) (by decide +kernel) (by decide +kernel)
theorem kw_339 : Cond.methodLink RX5 69 yX5_readLink ∈ wA := wA_t (i := 339) (by decide +kernel) (by decide +kernel)
theorem kw_341 : Cond.instanceMethod yX5_readLink ∈ wA := wA_t (i := 341) (by decide +kernel) (by decide +kernel)
theorem kw_342 : Cond.code yX5_readLink cX5_readLink 4 (some .boolean) ∈ wA := wA_t (i := 342) (by decide +kernel) (by decide +kernel)
theorem kw_343 : Cond.methodLink RX5 89 yX4_areLinked ∈ wA := wA_t (i := 343) (by decide +kernel) (by decide +kernel)
theorem kw_344 : Cond.instanceMethod yX4_areLinked ∈ wA := wA_t (i := 344) (by decide +kernel) (by decide +kernel)
theorem kw_345 : Cond.selects RX4 yX4_areLinked yX4_areLinked ∈ wA := wA_t (i := 345) (by decide +kernel) (by decide +kernel)
theorem kw_346 : Cond.code yX4_areLinked cX4_areLinked 3 (some .boolean) ∈ wA := wA_t (i := 346) (by decide +kernel) (by decide +kernel)
theorem kw_347 : Cond.methodLink RX4 59 yX4_linksAt ∈ wA := wA_t (i := 347) (by decide +kernel) (by decide +kernel)
theorem kw_348 : Cond.instanceMethod yX4_linksAt ∈ wA := wA_t (i := 348) (by decide +kernel) (by decide +kernel)
theorem kw_349 : Cond.selects RX4 yX4_linksAt yX4_linksAt ∈ wA := wA_t (i := 349) (by decide +kernel) (by decide +kernel)
theorem kw_350 : Cond.code yX4_linksAt cX4_linksAt 4 (some .int) ∈ wA := wA_t (i := 350) (by decide +kernel) (by decide +kernel)
theorem kw_351 : Cond.methodLink RX4 63 yX4_ends ∈ wA := wA_t (i := 351) (by decide +kernel) (by decide +kernel)
theorem kw_352 : Cond.instanceMethod yX4_ends ∈ wA := wA_t (i := 352) (by decide +kernel) (by decide +kernel)
theorem kw_353 : Cond.selects RX4 yX4_ends yX4_ends ∈ wA := wA_t (i := 353) (by decide +kernel) (by decide +kernel)
theorem kw_354 : Cond.code yX4_ends cX4_ends 2 (some .int) ∈ wA := wA_t (i := 354) (by decide +kernel) (by decide +kernel)
theorem kw_356 : Cond.static yX7_has ∈ wA := wA_t (i := 356) (by decide +kernel) (by decide +kernel)
theorem kw_357 : Cond.code yX7_has cX7_has 2 (some .boolean) ∈ wA := wA_t (i := 357) (by decide +kernel) (by decide +kernel)
theorem kw_358 : Cond.methodLink RX5 92 yX4_addLink ∈ wA := wA_t (i := 358) (by decide +kernel) (by decide +kernel)
theorem kw_359 : Cond.instanceMethod yX4_addLink ∈ wA := wA_t (i := 359) (by decide +kernel) (by decide +kernel)
theorem kw_360 : Cond.selects RX4 yX4_addLink yX4_addLink ∈ wA := wA_t (i := 360) (by decide +kernel) (by decide +kernel)
theorem kw_361 : Cond.code yX4_addLink cX4_addLink 4 none ∈ wA := wA_t (i := 361) (by decide +kernel) (by decide +kernel)
theorem kw_362 : Cond.methodLink RX5 72 yX5_takeSemicolon ∈ wA := wA_t (i := 362) (by decide +kernel) (by decide +kernel)
theorem kw_364 : Cond.instanceMethod yX5_takeSemicolon ∈ wA := wA_t (i := 364) (by decide +kernel) (by decide +kernel)
theorem kw_365 : Cond.code yX5_takeSemicolon cX5_takeSemicolon 1 (some .boolean) ∈ wA := wA_t (i := 365) (by decide +kernel) (by decide +kernel)
theorem kw_366 : Cond.methodLink RX7 78 yX2_remember ∈ wA := wA_t (i := 366) (by decide +kernel) (by decide +kernel)
theorem kw_367 : Cond.instanceMethod yX2_remember ∈ wA := wA_t (i := 367) (by decide +kernel) (by decide +kernel)
theorem kw_368 : Cond.selects RX2 yX2_remember yX2_remember ∈ wA := wA_t (i := 368) (by decide +kernel) (by decide +kernel)
theorem kw_369 : Cond.code yX2_remember cX2_remember 2 none ∈ wA := wA_t (i := 369) (by decide +kernel) (by decide +kernel)
theorem kw_370 : Cond.methodLink RX2 22 yX4_become ∈ wA := wA_t (i := 370) (by decide +kernel) (by decide +kernel)
theorem kw_371 : Cond.instanceMethod yX4_become ∈ wA := wA_t (i := 371) (by decide +kernel) (by decide +kernel)
theorem kw_372 : Cond.selects RX4 yX4_become yX4_become ∈ wA := wA_t (i := 372) (by decide +kernel) (by decide +kernel)
theorem kw_373 : Cond.code yX4_become cX4_become 2 none ∈ wA := wA_t (i := 373) (by decide +kernel) (by decide +kernel)
theorem kw_374 : Cond.methodLink RX4 49 arraycopyName ∈ wA := wA_t (i := 374) (by decide +kernel) (by decide +kernel)
theorem kw_375 : Cond.static arraycopyName ∈ wA := wA_t (i := 375) (by decide +kernel) (by decide +kernel)
theorem kw_376 : Cond.native arraycopyName ∈ wA := wA_t (i := 376) (by decide +kernel) (by decide +kernel)
theorem kw_377 : Cond.methodLink RX2 29 Lib.Math.min.name ∈ wA := wA_t (i := 377) (by decide +kernel) (by decide +kernel)
theorem kw_378 : Cond.static Lib.Math.min.name ∈ wA := wA_t (i := 378) (by decide +kernel) (by decide +kernel)
theorem kw_379 : Cond.code Lib.Math.min.name Lib.Math.min.code 2 (some .int) ∈ wA := wA_t (i := 379) (by decide +kernel) (by decide +kernel)
theorem kw_380 : Cond.methodLink RX7 82 yX4_become ∈ wA := wA_t (i := 380) (by decide +kernel) (by decide +kernel)
theorem kw_381 : Cond.arrayClass .byte ∈ wA := wA_t (i := 381) (by decide +kernel) (by decide +kernel)
theorem kw_382 : Cond.methodLink RL 27 yX7_joins ∈ wA := wA_t (i := 382) (by decide +kernel) (by decide +kernel)
theorem kw_383 : Cond.instanceMethod yX7_joins ∈ wA := wA_t (i := 383) (by decide +kernel) (by decide +kernel)
theorem kw_384 : Cond.selects RX7 yX7_joins yX7_joins ∈ wA := wA_t (i := 384) (by decide +kernel) (by decide +kernel)
theorem kw_385 : Cond.code yX7_joins cX7_joins 2 (some .int) ∈ wA := wA_t (i := 385) (by decide +kernel) (by decide +kernel)
theorem kw_386 : Cond.methodLink RX7 85 yX4_hasNode ∈ wA := wA_t (i := 386) (by decide +kernel) (by decide +kernel)
theorem kw_387 : Cond.instanceMethod yX4_hasNode ∈ wA := wA_t (i := 387) (by decide +kernel) (by decide +kernel)
theorem kw_388 : Cond.selects RX4 yX4_hasNode yX4_hasNode ∈ wA := wA_t (i := 388) (by decide +kernel) (by decide +kernel)
theorem kw_389 : Cond.code yX4_hasNode cX4_hasNode 2 (some .boolean) ∈ wA := wA_t (i := 389) (by decide +kernel) (by decide +kernel)
theorem kw_390 : Cond.methodLink RX7 88 yX7_role ∈ wA := wA_t (i := 390) (by decide +kernel) (by decide +kernel)
theorem kw_392 : Cond.instanceMethod yX7_role ∈ wA := wA_t (i := 392) (by decide +kernel) (by decide +kernel)
theorem kw_393 : Cond.code yX7_role cX7_role 2 (some .int) ∈ wA := wA_t (i := 393) (by decide +kernel) (by decide +kernel)
theorem kw_394 : Cond.methodLink RX7 108 yX4_isMember ∈ wA := wA_t (i := 394) (by decide +kernel) (by decide +kernel)
theorem kw_395 : Cond.instanceMethod yX4_isMember ∈ wA := wA_t (i := 395) (by decide +kernel) (by decide +kernel)
theorem kw_396 : Cond.selects RX4 yX4_isMember yX4_isMember ∈ wA := wA_t (i := 396) (by decide +kernel) (by decide +kernel)
theorem kw_397 : Cond.code yX4_isMember cX4_isMember 2 (some .boolean) ∈ wA := wA_t (i := 397) (by decide +kernel) (by decide +kernel)
theorem kw_398 : Cond.methodLink RX7 92 yX7_hasWay ∈ wA := wA_t (i := 398) (by decide +kernel) (by decide +kernel)
theorem kw_400 : Cond.instanceMethod yX7_hasWay ∈ wA := wA_t (i := 400) (by decide +kernel) (by decide +kernel)
theorem kw_401 : Cond.code yX7_hasWay cX7_hasWay 2 (some .boolean) ∈ wA := wA_t (i := 401) (by decide +kernel) (by decide +kernel)
theorem kw_402 : Cond.methodLink RX7 168 yX6_find ∈ wA := wA_t (i := 402) (by decide +kernel) (by decide +kernel)
theorem kw_403 : Cond.instanceMethod yX6_find ∈ wA := wA_t (i := 403) (by decide +kernel) (by decide +kernel)
theorem kw_404 : Cond.selects RX6 yX6_find yX6_find ∈ wA := wA_t (i := 404) (by decide +kernel) (by decide +kernel)
theorem kw_405 : Cond.code yX6_find cX6_find 3 none ∈ wA := wA_t (i := 405) (by decide +kernel) (by decide +kernel)
theorem kw_406 : Cond.methodLink RX6 15 yX4_upLinks ∈ wA := wA_t (i := 406) (by decide +kernel) (by decide +kernel)
theorem kw_407 : Cond.instanceMethod yX4_upLinks ∈ wA := wA_t (i := 407) (by decide +kernel) (by decide +kernel)
theorem kw_408 : Cond.selects RX4 yX4_upLinks yX4_upLinks ∈ wA := wA_t (i := 408) (by decide +kernel) (by decide +kernel)
theorem kw_409 : Cond.code yX4_upLinks cX4_upLinks 1 (some .int) ∈ wA := wA_t (i := 409) (by decide +kernel) (by decide +kernel)
theorem kw_410 : Cond.methodLink RX6 21 yX4_nodesOf ∈ wA := wA_t (i := 410) (by decide +kernel) (by decide +kernel)
theorem kw_411 : Cond.instanceMethod yX4_nodesOf ∈ wA := wA_t (i := 411) (by decide +kernel) (by decide +kernel)
theorem kw_412 : Cond.selects RX4 yX4_nodesOf yX4_nodesOf ∈ wA := wA_t (i := 412) (by decide +kernel) (by decide +kernel)
theorem kw_413 : Cond.code yX4_nodesOf cX4_nodesOf 4 (some .int) ∈ wA := wA_t (i := 413) (by decide +kernel) (by decide +kernel)
theorem kw_414 : Cond.methodLink RX6 25 yX6_findBy ∈ wA := wA_t (i := 414) (by decide +kernel) (by decide +kernel)
theorem kw_415 : Cond.instanceMethod yX6_findBy ∈ wA := wA_t (i := 415) (by decide +kernel) (by decide +kernel)
theorem kw_416 : Cond.selects RX6 yX6_findBy yX6_findBy ∈ wA := wA_t (i := 416) (by decide +kernel) (by decide +kernel)
theorem kw_417 : Cond.code yX6_findBy cX6_findBy 6 none ∈ wA := wA_t (i := 417) (by decide +kernel) (by decide +kernel)
theorem kw_418 : Cond.constant RX6 33 (1048576) ∈ wA := wA_t (i := 418) (by decide +kernel) (by decide +kernel)
theorem kw_419 : Cond.methodLink RX6 34 yJ7_fill_53178 ∈ wA := wA_t (i := 419) (by decide +kernel) (by decide +kernel)
theorem kw_420 : Cond.static yJ7_fill_53178 ∈ wA := wA_t (i := 420) (by decide +kernel) (by decide +kernel)
theorem kw_421 : Cond.code yJ7_fill_53178 cJ7_fill_53178 4 none ∈ wA := wA_t (i := 421) (by decide +kernel) (by decide +kernel)
theorem kw_423 : Cond.methodLink RX6 56 yX6_weightOf ∈ wA := wA_t (i := 423) (by decide +kernel) (by decide +kernel)
theorem kw_424 : Cond.static yX6_weightOf ∈ wA := wA_t (i := 424) (by decide +kernel) (by decide +kernel)
theorem kw_425 : Cond.code yX6_weightOf cX6_weightOf 2 (some .int) ∈ wA := wA_t (i := 425) (by decide +kernel) (by decide +kernel)
theorem kw_426 : Cond.methodLink RX6 60 yX6_shorten ∈ wA := wA_t (i := 426) (by decide +kernel) (by decide +kernel)
theorem kw_428 : Cond.instanceMethod yX6_shorten ∈ wA := wA_t (i := 428) (by decide +kernel) (by decide +kernel)
theorem kw_429 : Cond.code yX6_shorten cX6_shorten 4 none ∈ wA := wA_t (i := 429) (by decide +kernel) (by decide +kernel)
theorem kw_430 : Cond.methodLink RX6 64 Lib.Math.min.name ∈ wA := wA_t (i := 430) (by decide +kernel) (by decide +kernel)
theorem kw_431 : Cond.methodLink RX7 227 yX6_reach ∈ wA := wA_t (i := 431) (by decide +kernel) (by decide +kernel)
theorem kw_432 : Cond.instanceMethod yX6_reach ∈ wA := wA_t (i := 432) (by decide +kernel) (by decide +kernel)
theorem kw_433 : Cond.selects RX6 yX6_reach yX6_reach ∈ wA := wA_t (i := 433) (by decide +kernel) (by decide +kernel)
theorem kw_434 : Cond.code yX6_reach cX6_reach 2 (some .boolean) ∈ wA := wA_t (i := 434) (by decide +kernel) (by decide +kernel)
theorem kw_435 : Cond.methodLink RX7 95 yX0_join ∈ wA := wA_t (i := 435) (by decide +kernel) (by decide +kernel)
theorem kw_436 : Cond.instanceMethod yX0_join ∈ wA := wA_t (i := 436) (by decide +kernel) (by decide +kernel)
theorem kw_437 : Cond.selects RX0 yX0_join yX0_join ∈ wA := wA_t (i := 437) (by decide +kernel) (by decide +kernel)
theorem kw_438 : Cond.code yX0_join cX0_join 3 none ∈ wA := wA_t (i := 438) (by decide +kernel) (by decide +kernel)
theorem kw_439 : Cond.methodLink RX0 24 yX6_find ∈ wA := wA_t (i := 439) (by decide +kernel) (by decide +kernel)
theorem kw_440 : Cond.methodLink RX0 31 yX6_linksFrom ∈ wA := wA_t (i := 440) (by decide +kernel) (by decide +kernel)
theorem kw_441 : Cond.instanceMethod yX6_linksFrom ∈ wA := wA_t (i := 441) (by decide +kernel) (by decide +kernel)
theorem kw_442 : Cond.selects RX6 yX6_linksFrom yX6_linksFrom ∈ wA := wA_t (i := 442) (by decide +kernel) (by decide +kernel)
theorem kw_443 : Cond.code yX6_linksFrom cX6_linksFrom 7 (some .int) ∈ wA := wA_t (i := 443) (by decide +kernel) (by decide +kernel)
theorem kw_444 : Cond.methodLink RX6 84 yX6_firstStep ∈ wA := wA_t (i := 444) (by decide +kernel) (by decide +kernel)
theorem kw_446 : Cond.instanceMethod yX6_firstStep ∈ wA := wA_t (i := 446) (by decide +kernel) (by decide +kernel)
theorem kw_447 : Cond.code yX6_firstStep cX6_firstStep 7 (some .int) ∈ wA := wA_t (i := 447) (by decide +kernel) (by decide +kernel)
theorem kw_448 : Cond.methodLink RX6 77 yX4_ends ∈ wA := wA_t (i := 448) (by decide +kernel) (by decide +kernel)
theorem kw_449 : Cond.methodLink RX6 80 yX6_nextNode ∈ wA := wA_t (i := 449) (by decide +kernel) (by decide +kernel)
theorem kw_450 : Cond.static yX6_nextNode ∈ wA := wA_t (i := 450) (by decide +kernel) (by decide +kernel)
theorem kw_451 : Cond.code yX6_nextNode cX6_nextNode 3 (some .int) ∈ wA := wA_t (i := 451) (by decide +kernel) (by decide +kernel)
theorem kw_452 : Cond.methodLink RX7 99 yX0_mark ∈ wA := wA_t (i := 452) (by decide +kernel) (by decide +kernel)
theorem kw_453 : Cond.instanceMethod yX0_mark ∈ wA := wA_t (i := 453) (by decide +kernel) (by decide +kernel)
theorem kw_454 : Cond.selects RX0 yX0_mark yX0_mark ∈ wA := wA_t (i := 454) (by decide +kernel) (by decide +kernel)
theorem kw_455 : Cond.code yX0_mark cX0_mark 3 none ∈ wA := wA_t (i := 455) (by decide +kernel) (by decide +kernel)
theorem kw_456 : Cond.methodLink RX0 38 yX4_turnMark ∈ wA := wA_t (i := 456) (by decide +kernel) (by decide +kernel)
theorem kw_457 : Cond.instanceMethod yX4_turnMark ∈ wA := wA_t (i := 457) (by decide +kernel) (by decide +kernel)
theorem kw_458 : Cond.selects RX4 yX4_turnMark yX4_turnMark ∈ wA := wA_t (i := 458) (by decide +kernel) (by decide +kernel)
theorem kw_459 : Cond.code yX4_turnMark cX4_turnMark 3 none ∈ wA := wA_t (i := 459) (by decide +kernel) (by decide +kernel)
theorem kw_460 : Cond.methodLink RX4 85 yX4_markOf ∈ wA := wA_t (i := 460) (by decide +kernel) (by decide +kernel)
theorem kw_461 : Cond.instanceMethod yX4_markOf ∈ wA := wA_t (i := 461) (by decide +kernel) (by decide +kernel)
theorem kw_462 : Cond.selects RX4 yX4_markOf yX4_markOf ∈ wA := wA_t (i := 462) (by decide +kernel) (by decide +kernel)
theorem kw_463 : Cond.code yX4_markOf cX4_markOf 3 (some .int) ∈ wA := wA_t (i := 463) (by decide +kernel) (by decide +kernel)
theorem kw_464 : Cond.methodLink RX0 48 yX0_rearrange ∈ wA := wA_t (i := 464) (by decide +kernel) (by decide +kernel)
theorem kw_465 : Cond.instanceMethod yX0_rearrange ∈ wA := wA_t (i := 465) (by decide +kernel) (by decide +kernel)
theorem kw_466 : Cond.selects RX0 yX0_rearrange yX0_rearrange ∈ wA := wA_t (i := 466) (by decide +kernel) (by decide +kernel)
theorem kw_467 : Cond.code yX0_rearrange cX0_rearrange 3 none ∈ wA := wA_t (i := 467) (by decide +kernel) (by decide +kernel)
theorem kw_468 : Cond.methodLink RX0 52 yX0_anew ∈ wA := wA_t (i := 468) (by decide +kernel) (by decide +kernel)
theorem kw_469 : Cond.instanceMethod yX0_anew ∈ wA := wA_t (i := 469) (by decide +kernel) (by decide +kernel)
theorem kw_470 : Cond.selects RX0 yX0_anew yX0_anew ∈ wA := wA_t (i := 470) (by decide +kernel) (by decide +kernel)
theorem kw_471 : Cond.code yX0_anew cX0_anew 5 (some .int) ∈ wA := wA_t (i := 471) (by decide +kernel) (by decide +kernel)
theorem kw_472 : Cond.methodLink RX0 63 yX4_nodesOf ∈ wA := wA_t (i := 472) (by decide +kernel) (by decide +kernel)
theorem kw_473 : Cond.methodLink RX0 66 yX0_nearest ∈ wA := wA_t (i := 473) (by decide +kernel) (by decide +kernel)
theorem kw_475 : Cond.instanceMethod yX0_nearest ∈ wA := wA_t (i := 475) (by decide +kernel) (by decide +kernel)
theorem kw_476 : Cond.code yX0_nearest cX0_nearest 5 (some .int) ∈ wA := wA_t (i := 476) (by decide +kernel) (by decide +kernel)
theorem kw_478 : Cond.methodLink RX0 73 yX6_reach ∈ wA := wA_t (i := 478) (by decide +kernel) (by decide +kernel)
theorem kw_479 : Cond.methodLink RX0 77 yX6_costFrom ∈ wA := wA_t (i := 479) (by decide +kernel) (by decide +kernel)
theorem kw_480 : Cond.instanceMethod yX6_costFrom ∈ wA := wA_t (i := 480) (by decide +kernel) (by decide +kernel)
theorem kw_481 : Cond.selects RX6 yX6_costFrom yX6_costFrom ∈ wA := wA_t (i := 481) (by decide +kernel) (by decide +kernel)
theorem kw_482 : Cond.code yX6_costFrom cX6_costFrom 2 (some .int) ∈ wA := wA_t (i := 482) (by decide +kernel) (by decide +kernel)
theorem kw_483 : Cond.methodLink RX6 73 yX6_reach ∈ wA := wA_t (i := 483) (by decide +kernel) (by decide +kernel)
theorem kw_484 : Cond.methodLink RX0 56 yX4_costOf ∈ wA := wA_t (i := 484) (by decide +kernel) (by decide +kernel)
theorem kw_485 : Cond.instanceMethod yX4_costOf ∈ wA := wA_t (i := 485) (by decide +kernel) (by decide +kernel)
theorem kw_486 : Cond.selects RX4 yX4_costOf yX4_costOf ∈ wA := wA_t (i := 486) (by decide +kernel) (by decide +kernel)
theorem kw_487 : Cond.code yX4_costOf cX4_costOf 4 (some .int) ∈ wA := wA_t (i := 487) (by decide +kernel) (by decide +kernel)
theorem kw_488 : Cond.methodLink RX7 105 yX4_costOf ∈ wA := wA_t (i := 488) (by decide +kernel) (by decide +kernel)
theorem kw_489 : Cond.methodLink RL 31 yX7_leaves ∈ wA := wA_t (i := 489) (by decide +kernel) (by decide +kernel)
theorem kw_490 : Cond.instanceMethod yX7_leaves ∈ wA := wA_t (i := 490) (by decide +kernel) (by decide +kernel)
theorem kw_491 : Cond.selects RX7 yX7_leaves yX7_leaves ∈ wA := wA_t (i := 491) (by decide +kernel) (by decide +kernel)
theorem kw_492 : Cond.code yX7_leaves cX7_leaves 2 (some .int) ∈ wA := wA_t (i := 492) (by decide +kernel) (by decide +kernel)
theorem kw_493 : Cond.methodLink RX7 111 yX0_leave ∈ wA := wA_t (i := 493) (by decide +kernel) (by decide +kernel)
theorem kw_494 : Cond.instanceMethod yX0_leave ∈ wA := wA_t (i := 494) (by decide +kernel) (by decide +kernel)
theorem kw_495 : Cond.selects RX0 yX0_leave yX0_leave ∈ wA := wA_t (i := 495) (by decide +kernel) (by decide +kernel)
theorem kw_496 : Cond.code yX0_leave cX0_leave 3 none ∈ wA := wA_t (i := 496) (by decide +kernel) (by decide +kernel)
theorem kw_497 : Cond.methodLink RX0 35 yX4_prune ∈ wA := wA_t (i := 497) (by decide +kernel) (by decide +kernel)
theorem kw_498 : Cond.instanceMethod yX4_prune ∈ wA := wA_t (i := 498) (by decide +kernel) (by decide +kernel)
theorem kw_499 : Cond.selects RX4 yX4_prune yX4_prune ∈ wA := wA_t (i := 499) (by decide +kernel) (by decide +kernel)
theorem kw_500 : Cond.code yX4_prune cX4_prune 5 none ∈ wA := wA_t (i := 500) (by decide +kernel) (by decide +kernel)
theorem kw_501 : Cond.methodLink RX4 73 yJ6_bitCount_0f7a4 ∈ wA := wA_t (i := 501) (by decide +kernel) (by decide +kernel)
theorem kw_502 : Cond.static yJ6_bitCount_0f7a4 ∈ wA := wA_t (i := 502) (by decide +kernel) (by decide +kernel)
theorem kw_503 : Cond.code yJ6_bitCount_0f7a4 cJ6_bitCount_0f7a4 1 (some .int) ∈ wA := wA_t (i := 503) (by decide +kernel) (by decide +kernel)
theorem kw_504 : Cond.constant RJ6 265 (1431655765) ∈ wA := wA_t (i := 504) (by decide +kernel) (by decide +kernel)
theorem kw_505 : Cond.constant RJ6 266 (858993459) ∈ wA := wA_t (i := 505) (by decide +kernel) (by decide +kernel)
theorem kw_506 : Cond.constant RJ6 267 (252645135) ∈ wA := wA_t (i := 506) (by decide +kernel) (by decide +kernel)
theorem kw_507 : Cond.methodLink RL 35 yX7_rearranges ∈ wA := wA_t (i := 507) (by decide +kernel) (by decide +kernel)
theorem kw_508 : Cond.instanceMethod yX7_rearranges ∈ wA := wA_t (i := 508) (by decide +kernel) (by decide +kernel)
theorem kw_509 : Cond.selects RX7 yX7_rearranges yX7_rearranges ∈ wA := wA_t (i := 509) (by decide +kernel) (by decide +kernel)
theorem kw_510 : Cond.code yX7_rearranges cX7_rearranges 2 (some .int) ∈ wA := wA_t (i := 510) (by decide +kernel) (by decide +kernel)
theorem kw_511 : Cond.methodLink RX7 114 yX0_anew ∈ wA := wA_t (i := 511) (by decide +kernel) (by decide +kernel)
theorem kw_512 : Cond.methodLink RX7 117 yX0_rearrange ∈ wA := wA_t (i := 512) (by decide +kernel) (by decide +kernel)
theorem kw_513 : Cond.methodLink RL 39 yX7_cuts ∈ wA := wA_t (i := 513) (by decide +kernel) (by decide +kernel)
theorem kw_514 : Cond.instanceMethod yX7_cuts ∈ wA := wA_t (i := 514) (by decide +kernel) (by decide +kernel)
theorem kw_515 : Cond.selects RX7 yX7_cuts yX7_cuts ∈ wA := wA_t (i := 515) (by decide +kernel) (by decide +kernel)
theorem kw_516 : Cond.code yX7_cuts cX7_cuts 2 (some .int) ∈ wA := wA_t (i := 516) (by decide +kernel) (by decide +kernel)
theorem kw_517 : Cond.methodLink RX7 120 yX4_hasLink ∈ wA := wA_t (i := 517) (by decide +kernel) (by decide +kernel)
theorem kw_518 : Cond.instanceMethod yX4_hasLink ∈ wA := wA_t (i := 518) (by decide +kernel) (by decide +kernel)
theorem kw_519 : Cond.selects RX4 yX4_hasLink yX4_hasLink ∈ wA := wA_t (i := 519) (by decide +kernel) (by decide +kernel)
theorem kw_520 : Cond.code yX4_hasLink cX4_hasLink 2 (some .boolean) ∈ wA := wA_t (i := 520) (by decide +kernel) (by decide +kernel)
theorem kw_521 : Cond.methodLink RX7 126 yX7_has ∈ wA := wA_t (i := 521) (by decide +kernel) (by decide +kernel)
theorem kw_522 : Cond.methodLink RX7 130 yX0_cut ∈ wA := wA_t (i := 522) (by decide +kernel) (by decide +kernel)
theorem kw_523 : Cond.instanceMethod yX0_cut ∈ wA := wA_t (i := 523) (by decide +kernel) (by decide +kernel)
theorem kw_524 : Cond.selects RX0 yX0_cut yX0_cut ∈ wA := wA_t (i := 524) (by decide +kernel) (by decide +kernel)
theorem kw_525 : Cond.code yX0_cut cX0_cut 4 (some .int) ∈ wA := wA_t (i := 525) (by decide +kernel) (by decide +kernel)
theorem kw_526 : Cond.methodLink RX0 83 yJ6_bitCount_0f7a4 ∈ wA := wA_t (i := 526) (by decide +kernel) (by decide +kernel)
theorem kw_527 : Cond.methodLink RX0 88 yX0_keepHanging ∈ wA := wA_t (i := 527) (by decide +kernel) (by decide +kernel)
theorem kw_528 : Cond.static yX0_keepHanging ∈ wA := wA_t (i := 528) (by decide +kernel) (by decide +kernel)
theorem kw_529 : Cond.code yX0_keepHanging cX0_keepHanging 4 none ∈ wA := wA_t (i := 529) (by decide +kernel) (by decide +kernel)
theorem kw_530 : Cond.methodLink RX0 94 yX4_hangingBy ∈ wA := wA_t (i := 530) (by decide +kernel) (by decide +kernel)
theorem kw_531 : Cond.instanceMethod yX4_hangingBy ∈ wA := wA_t (i := 531) (by decide +kernel) (by decide +kernel)
theorem kw_532 : Cond.selects RX4 yX4_hangingBy yX4_hangingBy ∈ wA := wA_t (i := 532) (by decide +kernel) (by decide +kernel)
theorem kw_533 : Cond.code yX4_hangingBy cX4_hangingBy 5 (some .int) ∈ wA := wA_t (i := 533) (by decide +kernel) (by decide +kernel)
theorem kw_534 : Cond.methodLink RX0 100 yX4_ends ∈ wA := wA_t (i := 534) (by decide +kernel) (by decide +kernel)
theorem kw_535 : Cond.methodLink RX0 91 yX0_joinAgain ∈ wA := wA_t (i := 535) (by decide +kernel) (by decide +kernel)
theorem kw_537 : Cond.instanceMethod yX0_joinAgain ∈ wA := wA_t (i := 537) (by decide +kernel) (by decide +kernel)
theorem kw_538 : Cond.code yX0_joinAgain cX0_joinAgain 3 none ∈ wA := wA_t (i := 538) (by decide +kernel) (by decide +kernel)
theorem kw_539 : Cond.methodLink RX0 103 yX4_isMember ∈ wA := wA_t (i := 539) (by decide +kernel) (by decide +kernel)
theorem kw_540 : Cond.methodLink RL 43 yX7_mends ∈ wA := wA_t (i := 540) (by decide +kernel) (by decide +kernel)
theorem kw_541 : Cond.instanceMethod yX7_mends ∈ wA := wA_t (i := 541) (by decide +kernel) (by decide +kernel)
theorem kw_542 : Cond.selects RX7 yX7_mends yX7_mends ∈ wA := wA_t (i := 542) (by decide +kernel) (by decide +kernel)
theorem kw_543 : Cond.code yX7_mends cX7_mends 2 (some .int) ∈ wA := wA_t (i := 543) (by decide +kernel) (by decide +kernel)
theorem kw_544 : Cond.methodLink RX7 134 yJ6_bitCount_0f7a4 ∈ wA := wA_t (i := 544) (by decide +kernel) (by decide +kernel)
theorem kw_545 : Cond.methodLink RL 47 yX7_limits ∈ wA := wA_t (i := 545) (by decide +kernel) (by decide +kernel)
theorem kw_546 : Cond.instanceMethod yX7_limits ∈ wA := wA_t (i := 546) (by decide +kernel) (by decide +kernel)
theorem kw_547 : Cond.selects RX7 yX7_limits yX7_limits ∈ wA := wA_t (i := 547) (by decide +kernel) (by decide +kernel)
theorem kw_548 : Cond.code yX7_limits cX7_limits 3 (some .int) ∈ wA := wA_t (i := 548) (by decide +kernel) (by decide +kernel)
theorem kw_549 : Cond.methodLink RL 51 yX7_undo ∈ wA := wA_t (i := 549) (by decide +kernel) (by decide +kernel)
theorem kw_550 : Cond.instanceMethod yX7_undo ∈ wA := wA_t (i := 550) (by decide +kernel) (by decide +kernel)
theorem kw_551 : Cond.selects RX7 yX7_undo yX7_undo ∈ wA := wA_t (i := 551) (by decide +kernel) (by decide +kernel)
theorem kw_552 : Cond.code yX7_undo cX7_undo 1 (some .int) ∈ wA := wA_t (i := 552) (by decide +kernel) (by decide +kernel)
theorem kw_553 : Cond.methodLink RX7 142 yX2_recall ∈ wA := wA_t (i := 553) (by decide +kernel) (by decide +kernel)
theorem kw_554 : Cond.instanceMethod yX2_recall ∈ wA := wA_t (i := 554) (by decide +kernel) (by decide +kernel)
theorem kw_555 : Cond.selects RX2 yX2_recall yX2_recall ∈ wA := wA_t (i := 555) (by decide +kernel) (by decide +kernel)
theorem kw_556 : Cond.code yX2_recall cX2_recall 2 (some .boolean) ∈ wA := wA_t (i := 556) (by decide +kernel) (by decide +kernel)
theorem kw_557 : Cond.methodLink RL 55 yX7_link ∈ wA := wA_t (i := 557) (by decide +kernel) (by decide +kernel)
theorem kw_558 : Cond.instanceMethod yX7_link ∈ wA := wA_t (i := 558) (by decide +kernel) (by decide +kernel)
theorem kw_559 : Cond.selects RX7 yX7_link yX7_link ∈ wA := wA_t (i := 559) (by decide +kernel) (by decide +kernel)
theorem kw_560 : Cond.code yX7_link cX7_link 3 (some .int) ∈ wA := wA_t (i := 560) (by decide +kernel) (by decide +kernel)
theorem kw_561 : Cond.methodLink RX7 159 yX4_load ∈ wA := wA_t (i := 561) (by decide +kernel) (by decide +kernel)
theorem kw_562 : Cond.instanceMethod yX4_load ∈ wA := wA_t (i := 562) (by decide +kernel) (by decide +kernel)
theorem kw_563 : Cond.selects RX4 yX4_load yX4_load ∈ wA := wA_t (i := 563) (by decide +kernel) (by decide +kernel)
theorem kw_564 : Cond.code yX4_load cX4_load 2 (some .int) ∈ wA := wA_t (i := 564) (by decide +kernel) (by decide +kernel)
theorem kw_565 : Cond.methodLink RX4 69 yX4_membersOff ∈ wA := wA_t (i := 565) (by decide +kernel) (by decide +kernel)
theorem kw_566 : Cond.instanceMethod yX4_membersOff ∈ wA := wA_t (i := 566) (by decide +kernel) (by decide +kernel)
theorem kw_567 : Cond.selects RX4 yX4_membersOff yX4_membersOff ∈ wA := wA_t (i := 567) (by decide +kernel) (by decide +kernel)
theorem kw_568 : Cond.code yX4_membersOff cX4_membersOff 3 (some .int) ∈ wA := wA_t (i := 568) (by decide +kernel) (by decide +kernel)
theorem kw_569 : Cond.methodLink RX4 66 yX4_hangingBy ∈ wA := wA_t (i := 569) (by decide +kernel) (by decide +kernel)
theorem kw_570 : Cond.methodLink RL 60 yX7_node ∈ wA := wA_t (i := 570) (by decide +kernel) (by decide +kernel)
theorem kw_571 : Cond.instanceMethod yX7_node ∈ wA := wA_t (i := 571) (by decide +kernel) (by decide +kernel)
theorem kw_572 : Cond.selects RX7 yX7_node yX7_node ∈ wA := wA_t (i := 572) (by decide +kernel) (by decide +kernel)
theorem kw_573 : Cond.code yX7_node cX7_node 3 (some .int) ∈ wA := wA_t (i := 573) (by decide +kernel) (by decide +kernel)
theorem kw_574 : Cond.methodLink RX7 162 yX4_nodesOf ∈ wA := wA_t (i := 574) (by decide +kernel) (by decide +kernel)
theorem kw_575 : Cond.methodLink RX7 165 yX7_far ∈ wA := wA_t (i := 575) (by decide +kernel) (by decide +kernel)
theorem kw_577 : Cond.instanceMethod yX7_far ∈ wA := wA_t (i := 577) (by decide +kernel) (by decide +kernel)
theorem kw_578 : Cond.code yX7_far cX7_far 2 (some .int) ∈ wA := wA_t (i := 578) (by decide +kernel) (by decide +kernel)
theorem kw_579 : Cond.methodLink RX7 230 yX6_findBy ∈ wA := wA_t (i := 579) (by decide +kernel) (by decide +kernel)
theorem kw_580 : Cond.methodLink RX7 171 yX6_costFrom ∈ wA := wA_t (i := 580) (by decide +kernel) (by decide +kernel)
theorem kw_581 : Cond.methodLink RX7 174 yX6_stepsFrom ∈ wA := wA_t (i := 581) (by decide +kernel) (by decide +kernel)
theorem kw_582 : Cond.instanceMethod yX6_stepsFrom ∈ wA := wA_t (i := 582) (by decide +kernel) (by decide +kernel)
theorem kw_583 : Cond.selects RX6 yX6_stepsFrom yX6_stepsFrom ∈ wA := wA_t (i := 583) (by decide +kernel) (by decide +kernel)
theorem kw_584 : Cond.code yX6_stepsFrom cX6_stepsFrom 2 (some .int) ∈ wA := wA_t (i := 584) (by decide +kernel) (by decide +kernel)
theorem kw_585 : Cond.methodLink RX7 177 yX4_markOf ∈ wA := wA_t (i := 585) (by decide +kernel) (by decide +kernel)
theorem kw_586 : Cond.methodLink RX7 180 yX4_linksAt ∈ wA := wA_t (i := 586) (by decide +kernel) (by decide +kernel)
theorem kw_587 : Cond.methodLink RL 64 yX7_way ∈ wA := wA_t (i := 587) (by decide +kernel) (by decide +kernel)
theorem kw_588 : Cond.instanceMethod yX7_way ∈ wA := wA_t (i := 588) (by decide +kernel) (by decide +kernel)
theorem kw_589 : Cond.selects RX7 yX7_way yX7_way ∈ wA := wA_t (i := 589) (by decide +kernel) (by decide +kernel)
theorem kw_590 : Cond.code yX7_way cX7_way 3 (some .int) ∈ wA := wA_t (i := 590) (by decide +kernel) (by decide +kernel)
theorem kw_591 : Cond.methodLink RX7 183 yX6_stepAt ∈ wA := wA_t (i := 591) (by decide +kernel) (by decide +kernel)
theorem kw_592 : Cond.instanceMethod yX6_stepAt ∈ wA := wA_t (i := 592) (by decide +kernel) (by decide +kernel)
theorem kw_593 : Cond.selects RX6 yX6_stepAt yX6_stepAt ∈ wA := wA_t (i := 593) (by decide +kernel) (by decide +kernel)
theorem kw_594 : Cond.code yX6_stepAt cX6_stepAt 7 (some .int) ∈ wA := wA_t (i := 594) (by decide +kernel) (by decide +kernel)
theorem kw_595 : Cond.methodLink RL 68 yX7_tree ∈ wA := wA_t (i := 595) (by decide +kernel) (by decide +kernel)
theorem kw_596 : Cond.instanceMethod yX7_tree ∈ wA := wA_t (i := 596) (by decide +kernel) (by decide +kernel)
theorem kw_597 : Cond.selects RX7 yX7_tree yX7_tree ∈ wA := wA_t (i := 597) (by decide +kernel) (by decide +kernel)
theorem kw_598 : Cond.code yX7_tree cX7_tree 2 (some .int) ∈ wA := wA_t (i := 598) (by decide +kernel) (by decide +kernel)
theorem kw_599 : Cond.methodLink RX7 187 yX1_of ∈ wA := wA_t (i := 599) (by decide +kernel) (by decide +kernel)
theorem kw_600 : Cond.static yX1_of ∈ wA := wA_t (i := 600) (by decide +kernel) (by decide +kernel)
theorem kw_601 : Cond.code yX1_of cX1_of 5 (some .int) ∈ wA := wA_t (i := 601) (by decide +kernel) (by decide +kernel)
theorem kw_602 : Cond.methodLink RX1 24 yX1_grow ∈ wA := wA_t (i := 602) (by decide +kernel) (by decide +kernel)
theorem kw_603 : Cond.static yX1_grow ∈ wA := wA_t (i := 603) (by decide +kernel) (by decide +kernel)
theorem kw_604 : Cond.code yX1_grow cX1_grow 6 (some .int) ∈ wA := wA_t (i := 604) (by decide +kernel) (by decide +kernel)
theorem kw_605 : Cond.methodLink RX1 41 yX1_cheapestOn ∈ wA := wA_t (i := 605) (by decide +kernel) (by decide +kernel)
theorem kw_606 : Cond.static yX1_cheapestOn ∈ wA := wA_t (i := 606) (by decide +kernel) (by decide +kernel)
theorem kw_607 : Cond.code yX1_cheapestOn cX1_cheapestOn 8 (some .int) ∈ wA := wA_t (i := 607) (by decide +kernel) (by decide +kernel)
theorem kw_608 : Cond.methodLink RX1 48 yX4_upLinks ∈ wA := wA_t (i := 608) (by decide +kernel) (by decide +kernel)
theorem kw_609 : Cond.methodLink RX1 45 yX4_ends ∈ wA := wA_t (i := 609) (by decide +kernel) (by decide +kernel)
theorem kw_611 : Cond.methodLink RX1 30 yX4_nodesOf ∈ wA := wA_t (i := 611) (by decide +kernel) (by decide +kernel)
theorem kw_612 : Cond.methodLink RX1 34 yX1_isLess ∈ wA := wA_t (i := 612) (by decide +kernel) (by decide +kernel)
theorem kw_613 : Cond.static yX1_isLess ∈ wA := wA_t (i := 613) (by decide +kernel) (by decide +kernel)
theorem kw_614 : Cond.code yX1_isLess cX1_isLess 4 (some .boolean) ∈ wA := wA_t (i := 614) (by decide +kernel) (by decide +kernel)
theorem kw_615 : Cond.methodLink RX1 38 yX4_costOf ∈ wA := wA_t (i := 615) (by decide +kernel) (by decide +kernel)
theorem kw_616 : Cond.methodLink RX7 192 yX4_busiest ∈ wA := wA_t (i := 616) (by decide +kernel) (by decide +kernel)
theorem kw_617 : Cond.instanceMethod yX4_busiest ∈ wA := wA_t (i := 617) (by decide +kernel) (by decide +kernel)
theorem kw_618 : Cond.selects RX4 yX4_busiest yX4_busiest ∈ wA := wA_t (i := 618) (by decide +kernel) (by decide +kernel)
theorem kw_619 : Cond.code yX4_busiest cX4_busiest 4 (some .int) ∈ wA := wA_t (i := 619) (by decide +kernel) (by decide +kernel)
theorem kw_620 : Cond.methodLink RX4 78 yX4_load ∈ wA := wA_t (i := 620) (by decide +kernel) (by decide +kernel)
theorem kw_621 : Cond.methodLink RX7 195 yX4_needed ∈ wA := wA_t (i := 621) (by decide +kernel) (by decide +kernel)
theorem kw_622 : Cond.instanceMethod yX4_needed ∈ wA := wA_t (i := 622) (by decide +kernel) (by decide +kernel)
theorem kw_623 : Cond.selects RX4 yX4_needed yX4_needed ∈ wA := wA_t (i := 623) (by decide +kernel) (by decide +kernel)
theorem kw_624 : Cond.code yX4_needed cX4_needed 3 (some .int) ∈ wA := wA_t (i := 624) (by decide +kernel) (by decide +kernel)
theorem kw_625 : Cond.methodLink RX4 81 yX4_upLinks ∈ wA := wA_t (i := 625) (by decide +kernel) (by decide +kernel)
theorem kw_626 : Cond.methodLink RL 72 yX7_sees ∈ wA := wA_t (i := 626) (by decide +kernel) (by decide +kernel)
theorem kw_627 : Cond.instanceMethod yX7_sees ∈ wA := wA_t (i := 627) (by decide +kernel) (by decide +kernel)
theorem kw_628 : Cond.selects RX7 yX7_sees yX7_sees ∈ wA := wA_t (i := 628) (by decide +kernel) (by decide +kernel)
theorem kw_629 : Cond.code yX7_sees cX7_sees 4 (some .int) ∈ wA := wA_t (i := 629) (by decide +kernel) (by decide +kernel)
theorem kw_630 : Cond.methodLink RX7 198 yX3_add ∈ wA := wA_t (i := 630) (by decide +kernel) (by decide +kernel)
theorem kw_631 : Cond.instanceMethod yX3_add ∈ wA := wA_t (i := 631) (by decide +kernel) (by decide +kernel)
theorem kw_632 : Cond.selects RX3 yX3_add yX3_add ∈ wA := wA_t (i := 632) (by decide +kernel) (by decide +kernel)
theorem kw_633 : Cond.code yX3_add cX3_add 3 (some .boolean) ∈ wA := wA_t (i := 633) (by decide +kernel) (by decide +kernel)
theorem kw_634 : Cond.methodLink RL 76 yX7_forget ∈ wA := wA_t (i := 634) (by decide +kernel) (by decide +kernel)
theorem kw_635 : Cond.instanceMethod yX7_forget ∈ wA := wA_t (i := 635) (by decide +kernel) (by decide +kernel)
theorem kw_636 : Cond.selects RX7 yX7_forget yX7_forget ∈ wA := wA_t (i := 636) (by decide +kernel) (by decide +kernel)
theorem kw_637 : Cond.code yX7_forget cX7_forget 1 (some .int) ∈ wA := wA_t (i := 637) (by decide +kernel) (by decide +kernel)
theorem kw_638 : Cond.methodLink RX7 202 yX3_empty ∈ wA := wA_t (i := 638) (by decide +kernel) (by decide +kernel)
theorem kw_639 : Cond.instanceMethod yX3_empty ∈ wA := wA_t (i := 639) (by decide +kernel) (by decide +kernel)
theorem kw_640 : Cond.selects RX3 yX3_empty yX3_empty ∈ wA := wA_t (i := 640) (by decide +kernel) (by decide +kernel)
theorem kw_641 : Cond.code yX3_empty cX3_empty 2 (some .int) ∈ wA := wA_t (i := 641) (by decide +kernel) (by decide +kernel)
theorem kw_642 : Cond.methodLink RL 80 yX7_which ∈ wA := wA_t (i := 642) (by decide +kernel) (by decide +kernel)
theorem kw_643 : Cond.instanceMethod yX7_which ∈ wA := wA_t (i := 643) (by decide +kernel) (by decide +kernel)
theorem kw_644 : Cond.selects RX7 yX7_which yX7_which ∈ wA := wA_t (i := 644) (by decide +kernel) (by decide +kernel)
theorem kw_645 : Cond.code yX7_which cX7_which 3 (some .int) ∈ wA := wA_t (i := 645) (by decide +kernel) (by decide +kernel)
theorem kw_646 : Cond.methodLink RX7 203 yX7_fittingNodes ∈ wA := wA_t (i := 646) (by decide +kernel) (by decide +kernel)
theorem kw_648 : Cond.instanceMethod yX7_fittingNodes ∈ wA := wA_t (i := 648) (by decide +kernel) (by decide +kernel)
theorem kw_649 : Cond.code yX7_fittingNodes cX7_fittingNodes 3 (some .int) ∈ wA := wA_t (i := 649) (by decide +kernel) (by decide +kernel)
theorem kw_650 : Cond.methodLink RX7 234 yX3_fit ∈ wA := wA_t (i := 650) (by decide +kernel) (by decide +kernel)
theorem kw_651 : Cond.instanceMethod yX3_fit ∈ wA := wA_t (i := 651) (by decide +kernel) (by decide +kernel)
theorem kw_652 : Cond.selects RX3 yX3_fit yX3_fit ∈ wA := wA_t (i := 652) (by decide +kernel) (by decide +kernel)
theorem kw_653 : Cond.code yX3_fit cX3_fit 4 (some .boolean) ∈ wA := wA_t (i := 653) (by decide +kernel) (by decide +kernel)
theorem kw_654 : Cond.methodLink RX7 206 yJ6_numberOfTrailingZeros_0f7a4 ∈ wA := wA_t (i := 654) (by decide +kernel) (by decide +kernel)
theorem kw_655 : Cond.static yJ6_numberOfTrailingZeros_0f7a4 ∈ wA := wA_t (i := 655) (by decide +kernel) (by decide +kernel)
theorem kw_656 : Cond.code yJ6_numberOfTrailingZeros_0f7a4 cJ6_numberOfTrailingZeros_0f7a4 2 (some .int) ∈ wA := wA_t (i := 656) (by decide +kernel) (by decide +kernel)
theorem kw_657 : Cond.constant RJ6 264 (65536) ∈ wA := wA_t (i := 657) (by decide +kernel) (by decide +kernel)
theorem kw_658 : Cond.methodLink RL 84 yX7_keep ∈ wA := wA_t (i := 658) (by decide +kernel) (by decide +kernel)
theorem kw_659 : Cond.instanceMethod yX7_keep ∈ wA := wA_t (i := 659) (by decide +kernel) (by decide +kernel)
theorem kw_660 : Cond.selects RX7 yX7_keep yX7_keep ∈ wA := wA_t (i := 660) (by decide +kernel) (by decide +kernel)
theorem kw_661 : Cond.code yX7_keep cX7_keep 2 (some .int) ∈ wA := wA_t (i := 661) (by decide +kernel) (by decide +kernel)
theorem kw_662 : Cond.methodLink RL 88 yX7_back ∈ wA := wA_t (i := 662) (by decide +kernel) (by decide +kernel)
theorem kw_663 : Cond.instanceMethod yX7_back ∈ wA := wA_t (i := 663) (by decide +kernel) (by decide +kernel)
theorem kw_664 : Cond.selects RX7 yX7_back yX7_back ∈ wA := wA_t (i := 664) (by decide +kernel) (by decide +kernel)
theorem kw_665 : Cond.code yX7_back cX7_back 2 (some .int) ∈ wA := wA_t (i := 665) (by decide +kernel) (by decide +kernel)
theorem kw_666 : Cond.methodLink RX7 212 yX2_drop ∈ wA := wA_t (i := 666) (by decide +kernel) (by decide +kernel)
theorem kw_667 : Cond.instanceMethod yX2_drop ∈ wA := wA_t (i := 667) (by decide +kernel) (by decide +kernel)
theorem kw_668 : Cond.selects RX2 yX2_drop yX2_drop ∈ wA := wA_t (i := 668) (by decide +kernel) (by decide +kernel)
theorem kw_669 : Cond.code yX2_drop cX2_drop 1 none ∈ wA := wA_t (i := 669) (by decide +kernel) (by decide +kernel)
theorem kw_670 : Cond.methodLink RL 92 yX7_count ∈ wA := wA_t (i := 670) (by decide +kernel) (by decide +kernel)
theorem kw_671 : Cond.instanceMethod yX7_count ∈ wA := wA_t (i := 671) (by decide +kernel) (by decide +kernel)
theorem kw_672 : Cond.selects RX7 yX7_count yX7_count ∈ wA := wA_t (i := 672) (by decide +kernel) (by decide +kernel)
theorem kw_673 : Cond.code yX7_count cX7_count 2 (some .int) ∈ wA := wA_t (i := 673) (by decide +kernel) (by decide +kernel)
theorem kw_674 : Cond.classLink RL 10 RX8 ∈ wA := wA_t (i := 674) (by decide +kernel) (by decide +kernel)
theorem kw_675 : Cond.instantiable RX8 17 ∈ wA := wA_t (i := 675) (by decide +kernel) (by decide +kernel)
theorem kw_676 : Cond.methodLink RL 12 yX8_init ∈ wA := wA_t (i := 676) (by decide +kernel) (by decide +kernel)
theorem kw_677 : Cond.instanceMethod yX8_init ∈ wA := wA_t (i := 677) (by decide +kernel) (by decide +kernel)
theorem kw_678 : Cond.code yX8_init cX8_init 1 none ∈ wA := wA_t (i := 678) (by decide +kernel) (by decide +kernel)
theorem kw_679 : Cond.methodLink RX8 1 objectInit ∈ wA := wA_t (i := 679) (by decide +kernel) (by decide +kernel)
theorem kw_680 : Cond.fieldLink RX8 36 "TalkTreesModel" "thrown" "I" ∈ wA := wA_t (i := 680) (by decide +kernel) (by decide +kernel)
theorem kw_681 : Cond.fieldLink RX8 7 "TalkTreesModel" "s" "[I" ∈ wA := wA_t (i := 681) (by decide +kernel) (by decide +kernel)
theorem kw_682 : Cond.fieldLink RX8 13 "TalkTreesModel" "draft" "[I" ∈ wA := wA_t (i := 682) (by decide +kernel) (by decide +kernel)
theorem kw_683 : Cond.fieldLink RX8 16 "TalkTreesModel" "past" "[I" ∈ wA := wA_t (i := 683) (by decide +kernel) (by decide +kernel)
theorem kw_684 : Cond.fieldLink RX8 114 "TalkTreesModel" "undos" "I" ∈ wA := wA_t (i := 684) (by decide +kernel) (by decide +kernel)
theorem kw_685 : Cond.fieldLink RX8 19 "TalkTreesModel" "kept" "[I" ∈ wA := wA_t (i := 685) (by decide +kernel) (by decide +kernel)
theorem kw_686 : Cond.fieldLink RX8 22 "TalkTreesModel" "isKept" "[Z" ∈ wA := wA_t (i := 686) (by decide +kernel) (by decide +kernel)
theorem kw_687 : Cond.fieldLink RX8 26 "TalkTreesModel" "facts" "[I" ∈ wA := wA_t (i := 687) (by decide +kernel) (by decide +kernel)
theorem kw_688 : Cond.fieldLink RX8 171 "TalkTreesModel" "manyFacts" "I" ∈ wA := wA_t (i := 688) (by decide +kernel) (by decide +kernel)
theorem kw_689 : Cond.fieldLink RX8 29 "TalkTreesModel" "text" "[B" ∈ wA := wA_t (i := 689) (by decide +kernel) (by decide +kernel)
theorem kw_690 : Cond.fieldLink RX8 44 "TalkTreesModel" "typed" "I" ∈ wA := wA_t (i := 690) (by decide +kernel) (by decide +kernel)
theorem kw_691 : Cond.fieldLink RX8 47 "TalkTreesModel" "from" "I" ∈ wA := wA_t (i := 691) (by decide +kernel) (by decide +kernel)
theorem kw_692 : Cond.fieldLink RX8 50 "TalkTreesModel" "to" "I" ∈ wA := wA_t (i := 692) (by decide +kernel) (by decide +kernel)
theorem kw_693 : Cond.fieldLink RX8 61 "TalkTreesModel" "token" "I" ∈ wA := wA_t (i := 693) (by decide +kernel) (by decide +kernel)
theorem kw_694 : Cond.fieldLink RX8 67 "TalkTreesModel" "fault" "I" ∈ wA := wA_t (i := 694) (by decide +kernel) (by decide +kernel)
theorem kw_695 : Cond.fieldLink RX8 33 "TalkTreesModel" "away" "[I" ∈ wA := wA_t (i := 695) (by decide +kernel) (by decide +kernel)
theorem kw_696 : Cond.fieldLink RX8 159 "TalkTreesModel" "leastCost" "I" ∈ wA := wA_t (i := 696) (by decide +kernel) (by decide +kernel)
theorem kw_697 : Cond.lays RX8 "TalkTreesModel" "thrown" "I" ∈ wA := wA_t (i := 697) (by decide +kernel) (by decide +kernel)
theorem kw_699 : Cond.laysFinal RX8 "TalkTreesModel" "s" "[I" ∈ wA := wA_t (i := 699) (by decide +kernel) (by decide +kernel)
theorem kw_701 : Cond.laysFinal RX8 "TalkTreesModel" "draft" "[I" ∈ wA := wA_t (i := 701) (by decide +kernel) (by decide +kernel)
theorem kw_703 : Cond.laysFinal RX8 "TalkTreesModel" "past" "[I" ∈ wA := wA_t (i := 703) (by decide +kernel) (by decide +kernel)
theorem kw_705 : Cond.lays RX8 "TalkTreesModel" "undos" "I" ∈ wA := wA_t (i := 705) (by decide +kernel) (by decide +kernel)
theorem kw_707 : Cond.laysFinal RX8 "TalkTreesModel" "kept" "[I" ∈ wA := wA_t (i := 707) (by decide +kernel) (by decide +kernel)
theorem kw_709 : Cond.laysFinal RX8 "TalkTreesModel" "isKept" "[Z" ∈ wA := wA_t (i := 709) (by decide +kernel) (by decide +kernel)
theorem kw_711 : Cond.laysFinal RX8 "TalkTreesModel" "facts" "[I" ∈ wA := wA_t (i := 711) (by decide +kernel) (by decide +kernel)
theorem kw_713 : Cond.lays RX8 "TalkTreesModel" "manyFacts" "I" ∈ wA := wA_t (i := 713) (by decide +kernel) (by decide +kernel)
theorem kw_715 : Cond.laysFinal RX8 "TalkTreesModel" "text" "[B" ∈ wA := wA_t (i := 715) (by decide +kernel) (by decide +kernel)
theorem kw_717 : Cond.lays RX8 "TalkTreesModel" "typed" "I" ∈ wA := wA_t (i := 717) (by decide +kernel) (by decide +kernel)
theorem kw_719 : Cond.lays RX8 "TalkTreesModel" "from" "I" ∈ wA := wA_t (i := 719) (by decide +kernel) (by decide +kernel)
theorem kw_721 : Cond.lays RX8 "TalkTreesModel" "to" "I" ∈ wA := wA_t (i := 721) (by decide +kernel) (by decide +kernel)
theorem kw_723 : Cond.lays RX8 "TalkTreesModel" "token" "I" ∈ wA := wA_t (i := 723) (by decide +kernel) (by decide +kernel)
theorem kw_725 : Cond.lays RX8 "TalkTreesModel" "fault" "I" ∈ wA := wA_t (i := 725) (by decide +kernel) (by decide +kernel)
theorem kw_727 : Cond.laysFinal RX8 "TalkTreesModel" "away" "[I" ∈ wA := wA_t (i := 727) (by decide +kernel) (by decide +kernel)
theorem kw_729 : Cond.lays RX8 "TalkTreesModel" "leastCost" "I" ∈ wA := wA_t (i := 729) (by decide +kernel) (by decide +kernel)
theorem kw_732 : Cond.methodLink RL 17 yX8_type ∈ wA := wA_t (i := 732) (by decide +kernel) (by decide +kernel)
theorem kw_733 : Cond.instanceMethod yX8_type ∈ wA := wA_t (i := 733) (by decide +kernel) (by decide +kernel)
theorem kw_734 : Cond.selects RX8 yX8_type yX8_type ∈ wA := wA_t (i := 734) (by decide +kernel) (by decide +kernel)
theorem kw_735 : Cond.code yX8_type cX8_type 2 (some .int) ∈ wA := wA_t (i := 735) (by decide +kernel) (by decide +kernel)
theorem kw_736 : Cond.methodLink RX8 40 yX8_in ∈ wA := wA_t (i := 736) (by decide +kernel) (by decide +kernel)
theorem kw_737 : Cond.static yX8_in ∈ wA := wA_t (i := 737) (by decide +kernel) (by decide +kernel)
theorem kw_738 : Cond.code yX8_in cX8_in 3 (some .boolean) ∈ wA := wA_t (i := 738) (by decide +kernel) (by decide +kernel)
theorem kw_739 : Cond.methodLink RL 22 yX8_clear ∈ wA := wA_t (i := 739) (by decide +kernel) (by decide +kernel)
theorem kw_740 : Cond.instanceMethod yX8_clear ∈ wA := wA_t (i := 740) (by decide +kernel) (by decide +kernel)
theorem kw_741 : Cond.selects RX8 yX8_clear yX8_clear ∈ wA := wA_t (i := 741) (by decide +kernel) (by decide +kernel)
theorem kw_742 : Cond.code yX8_clear cX8_clear 2 (some .int) ∈ wA := wA_t (i := 742) (by decide +kernel) (by decide +kernel)
theorem kw_743 : Cond.methodLink RL 26 yX8_tells ∈ wA := wA_t (i := 743) (by decide +kernel) (by decide +kernel)
theorem kw_744 : Cond.instanceMethod yX8_tells ∈ wA := wA_t (i := 744) (by decide +kernel) (by decide +kernel)
theorem kw_745 : Cond.selects RX8 yX8_tells yX8_tells ∈ wA := wA_t (i := 745) (by decide +kernel) (by decide +kernel)
theorem kw_746 : Cond.code yX8_tells cX8_tells 3 (some .int) ∈ wA := wA_t (i := 746) (by decide +kernel) (by decide +kernel)
theorem kw_747 : Cond.methodLink RX8 88 yX8_reads ∈ wA := wA_t (i := 747) (by decide +kernel) (by decide +kernel)
theorem kw_749 : Cond.instanceMethod yX8_reads ∈ wA := wA_t (i := 749) (by decide +kernel) (by decide +kernel)
theorem kw_750 : Cond.code yX8_reads cX8_reads 3 (some .int) ∈ wA := wA_t (i := 750) (by decide +kernel) (by decide +kernel)
theorem kw_751 : Cond.methodLink RX8 70 yX8_steps ∈ wA := wA_t (i := 751) (by decide +kernel) (by decide +kernel)
theorem kw_753 : Cond.instanceMethod yX8_steps ∈ wA := wA_t (i := 753) (by decide +kernel) (by decide +kernel)
theorem kw_754 : Cond.code yX8_steps cX8_steps 1 none ∈ wA := wA_t (i := 754) (by decide +kernel) (by decide +kernel)
theorem kw_755 : Cond.methodLink RX8 53 yX8_at ∈ wA := wA_t (i := 755) (by decide +kernel) (by decide +kernel)
theorem kw_757 : Cond.instanceMethod yX8_at ∈ wA := wA_t (i := 757) (by decide +kernel) (by decide +kernel)
theorem kw_758 : Cond.code yX8_at cX8_at 2 (some .int) ∈ wA := wA_t (i := 758) (by decide +kernel) (by decide +kernel)
theorem kw_759 : Cond.methodLink RX8 64 yX8_wordOf ∈ wA := wA_t (i := 759) (by decide +kernel) (by decide +kernel)
theorem kw_761 : Cond.instanceMethod yX8_wordOf ∈ wA := wA_t (i := 761) (by decide +kernel) (by decide +kernel)
theorem kw_762 : Cond.code yX8_wordOf cX8_wordOf 1 (some .int) ∈ wA := wA_t (i := 762) (by decide +kernel) (by decide +kernel)
theorem kw_763 : Cond.methodLink RX8 57 yX8_code ∈ wA := wA_t (i := 763) (by decide +kernel) (by decide +kernel)
theorem kw_765 : Cond.instanceMethod yX8_code ∈ wA := wA_t (i := 765) (by decide +kernel) (by decide +kernel)
theorem kw_766 : Cond.code yX8_code cX8_code 3 (some .int) ∈ wA := wA_t (i := 766) (by decide +kernel) (by decide +kernel)
theorem kw_767 : Cond.methodLink RX8 73 yX8_takes ∈ wA := wA_t (i := 767) (by decide +kernel) (by decide +kernel)
theorem kw_769 : Cond.instanceMethod yX8_takes ∈ wA := wA_t (i := 769) (by decide +kernel) (by decide +kernel)
theorem kw_770 : Cond.code yX8_takes cX8_takes 2 none ∈ wA := wA_t (i := 770) (by decide +kernel) (by decide +kernel)
theorem kw_771 : Cond.methodLink RX8 77 yX8_figure ∈ wA := wA_t (i := 771) (by decide +kernel) (by decide +kernel)
theorem kw_773 : Cond.instanceMethod yX8_figure ∈ wA := wA_t (i := 773) (by decide +kernel) (by decide +kernel)
theorem kw_774 : Cond.code yX8_figure cX8_figure 4 (some .int) ∈ wA := wA_t (i := 774) (by decide +kernel) (by decide +kernel)
theorem kw_775 : Cond.methodLink RX8 85 yX8_readsLink ∈ wA := wA_t (i := 775) (by decide +kernel) (by decide +kernel)
theorem kw_777 : Cond.instanceMethod yX8_readsLink ∈ wA := wA_t (i := 777) (by decide +kernel) (by decide +kernel)
theorem kw_778 : Cond.code yX8_readsLink cX8_readsLink 5 none ∈ wA := wA_t (i := 778) (by decide +kernel) (by decide +kernel)
theorem kw_779 : Cond.methodLink RX8 81 yX8_areLinked ∈ wA := wA_t (i := 779) (by decide +kernel) (by decide +kernel)
theorem kw_781 : Cond.instanceMethod yX8_areLinked ∈ wA := wA_t (i := 781) (by decide +kernel) (by decide +kernel)
theorem kw_782 : Cond.code yX8_areLinked cX8_areLinked 5 (some .boolean) ∈ wA := wA_t (i := 782) (by decide +kernel) (by decide +kernel)
theorem kw_783 : Cond.methodLink RX8 91 yX8_notes ∈ wA := wA_t (i := 783) (by decide +kernel) (by decide +kernel)
theorem kw_785 : Cond.instanceMethod yX8_notes ∈ wA := wA_t (i := 785) (by decide +kernel) (by decide +kernel)
theorem kw_786 : Cond.code yX8_notes cX8_notes 2 none ∈ wA := wA_t (i := 786) (by decide +kernel) (by decide +kernel)
theorem kw_787 : Cond.methodLink RL 30 yX8_joins ∈ wA := wA_t (i := 787) (by decide +kernel) (by decide +kernel)
theorem kw_788 : Cond.instanceMethod yX8_joins ∈ wA := wA_t (i := 788) (by decide +kernel) (by decide +kernel)
theorem kw_789 : Cond.selects RX8 yX8_joins yX8_joins ∈ wA := wA_t (i := 789) (by decide +kernel) (by decide +kernel)
theorem kw_790 : Cond.code yX8_joins cX8_joins 2 (some .int) ∈ wA := wA_t (i := 790) (by decide +kernel) (by decide +kernel)
theorem kw_791 : Cond.methodLink RX8 129 yX8_isNode ∈ wA := wA_t (i := 791) (by decide +kernel) (by decide +kernel)
theorem kw_793 : Cond.instanceMethod yX8_isNode ∈ wA := wA_t (i := 793) (by decide +kernel) (by decide +kernel)
theorem kw_794 : Cond.code yX8_isNode cX8_isNode 2 (some .boolean) ∈ wA := wA_t (i := 794) (by decide +kernel) (by decide +kernel)
theorem kw_795 : Cond.methodLink RX8 104 yX8_nodesOf ∈ wA := wA_t (i := 795) (by decide +kernel) (by decide +kernel)
theorem kw_797 : Cond.instanceMethod yX8_nodesOf ∈ wA := wA_t (i := 797) (by decide +kernel) (by decide +kernel)
theorem kw_798 : Cond.code yX8_nodesOf cX8_nodesOf 6 (some .int) ∈ wA := wA_t (i := 798) (by decide +kernel) (by decide +kernel)
theorem kw_799 : Cond.methodLink RX8 94 yX8_has ∈ wA := wA_t (i := 799) (by decide +kernel) (by decide +kernel)
theorem kw_800 : Cond.static yX8_has ∈ wA := wA_t (i := 800) (by decide +kernel) (by decide +kernel)
theorem kw_801 : Cond.code yX8_has cX8_has 2 (some .boolean) ∈ wA := wA_t (i := 801) (by decide +kernel) (by decide +kernel)
theorem kw_802 : Cond.methodLink RX8 107 yX8_measures ∈ wA := wA_t (i := 802) (by decide +kernel) (by decide +kernel)
theorem kw_804 : Cond.instanceMethod yX8_measures ∈ wA := wA_t (i := 804) (by decide +kernel) (by decide +kernel)
theorem kw_805 : Cond.code yX8_measures cX8_measures 7 none ∈ wA := wA_t (i := 805) (by decide +kernel) (by decide +kernel)
theorem kw_806 : Cond.constant RX8 97 (1000000) ∈ wA := wA_t (i := 806) (by decide +kernel) (by decide +kernel)
theorem kw_807 : Cond.methodLink RX8 111 yX8_wayOf ∈ wA := wA_t (i := 807) (by decide +kernel) (by decide +kernel)
theorem kw_809 : Cond.instanceMethod yX8_wayOf ∈ wA := wA_t (i := 809) (by decide +kernel) (by decide +kernel)
theorem kw_810 : Cond.code yX8_wayOf cX8_wayOf 5 (some .int) ∈ wA := wA_t (i := 810) (by decide +kernel) (by decide +kernel)
theorem kw_811 : Cond.methodLink RX8 101 yX8_nextLink ∈ wA := wA_t (i := 811) (by decide +kernel) (by decide +kernel)
theorem kw_813 : Cond.instanceMethod yX8_nextLink ∈ wA := wA_t (i := 813) (by decide +kernel) (by decide +kernel)
theorem kw_814 : Cond.code yX8_nextLink cX8_nextLink 6 (some .int) ∈ wA := wA_t (i := 814) (by decide +kernel) (by decide +kernel)
theorem kw_815 : Cond.methodLink RX8 98 yX8_beyond ∈ wA := wA_t (i := 815) (by decide +kernel) (by decide +kernel)
theorem kw_817 : Cond.instanceMethod yX8_beyond ∈ wA := wA_t (i := 817) (by decide +kernel) (by decide +kernel)
theorem kw_818 : Cond.code yX8_beyond cX8_beyond 3 (some .int) ∈ wA := wA_t (i := 818) (by decide +kernel) (by decide +kernel)
theorem kw_819 : Cond.methodLink RX8 133 yX8_marks ∈ wA := wA_t (i := 819) (by decide +kernel) (by decide +kernel)
theorem kw_821 : Cond.instanceMethod yX8_marks ∈ wA := wA_t (i := 821) (by decide +kernel) (by decide +kernel)
theorem kw_822 : Cond.code yX8_marks cX8_marks 4 none ∈ wA := wA_t (i := 822) (by decide +kernel) (by decide +kernel)
theorem kw_823 : Cond.methodLink RX8 117 yX8_markOf ∈ wA := wA_t (i := 823) (by decide +kernel) (by decide +kernel)
theorem kw_825 : Cond.instanceMethod yX8_markOf ∈ wA := wA_t (i := 825) (by decide +kernel) (by decide +kernel)
theorem kw_826 : Cond.code yX8_markOf cX8_markOf 4 (some .int) ∈ wA := wA_t (i := 826) (by decide +kernel) (by decide +kernel)
theorem kw_827 : Cond.methodLink RX8 120 yX8_anew ∈ wA := wA_t (i := 827) (by decide +kernel) (by decide +kernel)
theorem kw_829 : Cond.instanceMethod yX8_anew ∈ wA := wA_t (i := 829) (by decide +kernel) (by decide +kernel)
theorem kw_830 : Cond.code yX8_anew cX8_anew 5 (some .int) ∈ wA := wA_t (i := 830) (by decide +kernel) (by decide +kernel)
theorem kw_831 : Cond.methodLink RX8 123 yX8_costOf ∈ wA := wA_t (i := 831) (by decide +kernel) (by decide +kernel)
theorem kw_833 : Cond.instanceMethod yX8_costOf ∈ wA := wA_t (i := 833) (by decide +kernel) (by decide +kernel)
theorem kw_834 : Cond.code yX8_costOf cX8_costOf 4 (some .int) ∈ wA := wA_t (i := 834) (by decide +kernel) (by decide +kernel)
theorem kw_835 : Cond.methodLink RX8 126 yX8_bares ∈ wA := wA_t (i := 835) (by decide +kernel) (by decide +kernel)
theorem kw_837 : Cond.instanceMethod yX8_bares ∈ wA := wA_t (i := 837) (by decide +kernel) (by decide +kernel)
theorem kw_838 : Cond.code yX8_bares cX8_bares 2 none ∈ wA := wA_t (i := 838) (by decide +kernel) (by decide +kernel)
theorem kw_839 : Cond.methodLink RL 34 yX8_leaves ∈ wA := wA_t (i := 839) (by decide +kernel) (by decide +kernel)
theorem kw_840 : Cond.instanceMethod yX8_leaves ∈ wA := wA_t (i := 840) (by decide +kernel) (by decide +kernel)
theorem kw_841 : Cond.selects RX8 yX8_leaves yX8_leaves ∈ wA := wA_t (i := 841) (by decide +kernel) (by decide +kernel)
theorem kw_842 : Cond.code yX8_leaves cX8_leaves 2 (some .int) ∈ wA := wA_t (i := 842) (by decide +kernel) (by decide +kernel)
theorem kw_843 : Cond.methodLink RX8 136 yX8_pruned ∈ wA := wA_t (i := 843) (by decide +kernel) (by decide +kernel)
theorem kw_845 : Cond.instanceMethod yX8_pruned ∈ wA := wA_t (i := 845) (by decide +kernel) (by decide +kernel)
theorem kw_846 : Cond.code yX8_pruned cX8_pruned 9 (some .int) ∈ wA := wA_t (i := 846) (by decide +kernel) (by decide +kernel)
theorem kw_847 : Cond.methodLink RL 38 yX8_rearranges ∈ wA := wA_t (i := 847) (by decide +kernel) (by decide +kernel)
theorem kw_848 : Cond.instanceMethod yX8_rearranges ∈ wA := wA_t (i := 848) (by decide +kernel) (by decide +kernel)
theorem kw_849 : Cond.selects RX8 yX8_rearranges yX8_rearranges ∈ wA := wA_t (i := 849) (by decide +kernel) (by decide +kernel)
theorem kw_850 : Cond.code yX8_rearranges cX8_rearranges 3 (some .int) ∈ wA := wA_t (i := 850) (by decide +kernel) (by decide +kernel)
theorem kw_851 : Cond.methodLink RL 42 yX8_cuts ∈ wA := wA_t (i := 851) (by decide +kernel) (by decide +kernel)
theorem kw_852 : Cond.instanceMethod yX8_cuts ∈ wA := wA_t (i := 852) (by decide +kernel) (by decide +kernel)
theorem kw_853 : Cond.selects RX8 yX8_cuts yX8_cuts ∈ wA := wA_t (i := 853) (by decide +kernel) (by decide +kernel)
theorem kw_854 : Cond.code yX8_cuts cX8_cuts 6 (some .int) ∈ wA := wA_t (i := 854) (by decide +kernel) (by decide +kernel)
theorem kw_855 : Cond.methodLink RX8 139 yX8_isLink ∈ wA := wA_t (i := 855) (by decide +kernel) (by decide +kernel)
theorem kw_857 : Cond.instanceMethod yX8_isLink ∈ wA := wA_t (i := 857) (by decide +kernel) (by decide +kernel)
theorem kw_858 : Cond.code yX8_isLink cX8_isLink 2 (some .boolean) ∈ wA := wA_t (i := 858) (by decide +kernel) (by decide +kernel)
theorem kw_859 : Cond.methodLink RX8 142 yX8_hanging ∈ wA := wA_t (i := 859) (by decide +kernel) (by decide +kernel)
theorem kw_861 : Cond.instanceMethod yX8_hanging ∈ wA := wA_t (i := 861) (by decide +kernel) (by decide +kernel)
theorem kw_862 : Cond.code yX8_hanging cX8_hanging 5 (some .int) ∈ wA := wA_t (i := 862) (by decide +kernel) (by decide +kernel)
theorem kw_863 : Cond.methodLink RL 46 yX8_mends ∈ wA := wA_t (i := 863) (by decide +kernel) (by decide +kernel)
theorem kw_864 : Cond.instanceMethod yX8_mends ∈ wA := wA_t (i := 864) (by decide +kernel) (by decide +kernel)
theorem kw_865 : Cond.selects RX8 yX8_mends yX8_mends ∈ wA := wA_t (i := 865) (by decide +kernel) (by decide +kernel)
theorem kw_866 : Cond.code yX8_mends cX8_mends 2 (some .int) ∈ wA := wA_t (i := 866) (by decide +kernel) (by decide +kernel)
theorem kw_867 : Cond.methodLink RX8 145 yX8_bits ∈ wA := wA_t (i := 867) (by decide +kernel) (by decide +kernel)
theorem kw_868 : Cond.static yX8_bits ∈ wA := wA_t (i := 868) (by decide +kernel) (by decide +kernel)
theorem kw_869 : Cond.code yX8_bits cX8_bits 3 (some .int) ∈ wA := wA_t (i := 869) (by decide +kernel) (by decide +kernel)
theorem kw_870 : Cond.methodLink RL 50 yX8_limits ∈ wA := wA_t (i := 870) (by decide +kernel) (by decide +kernel)
theorem kw_871 : Cond.instanceMethod yX8_limits ∈ wA := wA_t (i := 871) (by decide +kernel) (by decide +kernel)
theorem kw_872 : Cond.selects RX8 yX8_limits yX8_limits ∈ wA := wA_t (i := 872) (by decide +kernel) (by decide +kernel)
theorem kw_873 : Cond.code yX8_limits cX8_limits 3 (some .int) ∈ wA := wA_t (i := 873) (by decide +kernel) (by decide +kernel)
theorem kw_874 : Cond.methodLink RL 54 yX8_undo ∈ wA := wA_t (i := 874) (by decide +kernel) (by decide +kernel)
theorem kw_875 : Cond.instanceMethod yX8_undo ∈ wA := wA_t (i := 875) (by decide +kernel) (by decide +kernel)
theorem kw_876 : Cond.selects RX8 yX8_undo yX8_undo ∈ wA := wA_t (i := 876) (by decide +kernel) (by decide +kernel)
theorem kw_877 : Cond.code yX8_undo cX8_undo 2 (some .int) ∈ wA := wA_t (i := 877) (by decide +kernel) (by decide +kernel)
theorem kw_878 : Cond.methodLink RL 59 yX8_link ∈ wA := wA_t (i := 878) (by decide +kernel) (by decide +kernel)
theorem kw_879 : Cond.instanceMethod yX8_link ∈ wA := wA_t (i := 879) (by decide +kernel) (by decide +kernel)
theorem kw_880 : Cond.selects RX8 yX8_link yX8_link ∈ wA := wA_t (i := 880) (by decide +kernel) (by decide +kernel)
theorem kw_881 : Cond.code yX8_link cX8_link 3 (some .int) ∈ wA := wA_t (i := 881) (by decide +kernel) (by decide +kernel)
theorem kw_882 : Cond.methodLink RX8 148 yX8_load ∈ wA := wA_t (i := 882) (by decide +kernel) (by decide +kernel)
theorem kw_884 : Cond.instanceMethod yX8_load ∈ wA := wA_t (i := 884) (by decide +kernel) (by decide +kernel)
theorem kw_885 : Cond.code yX8_load cX8_load 2 (some .int) ∈ wA := wA_t (i := 885) (by decide +kernel) (by decide +kernel)
theorem kw_886 : Cond.methodLink RL 63 yX8_node ∈ wA := wA_t (i := 886) (by decide +kernel) (by decide +kernel)
theorem kw_887 : Cond.instanceMethod yX8_node ∈ wA := wA_t (i := 887) (by decide +kernel) (by decide +kernel)
theorem kw_888 : Cond.selects RX8 yX8_node yX8_node ∈ wA := wA_t (i := 888) (by decide +kernel) (by decide +kernel)
theorem kw_889 : Cond.code yX8_node cX8_node 3 (some .int) ∈ wA := wA_t (i := 889) (by decide +kernel) (by decide +kernel)
theorem kw_890 : Cond.methodLink RX8 151 yX8_farOf ∈ wA := wA_t (i := 890) (by decide +kernel) (by decide +kernel)
theorem kw_892 : Cond.instanceMethod yX8_farOf ∈ wA := wA_t (i := 892) (by decide +kernel) (by decide +kernel)
theorem kw_893 : Cond.code yX8_farOf cX8_farOf 4 (some .int) ∈ wA := wA_t (i := 893) (by decide +kernel) (by decide +kernel)
theorem kw_894 : Cond.methodLink RX8 154 yX8_linksAt ∈ wA := wA_t (i := 894) (by decide +kernel) (by decide +kernel)
theorem kw_896 : Cond.instanceMethod yX8_linksAt ∈ wA := wA_t (i := 896) (by decide +kernel) (by decide +kernel)
theorem kw_897 : Cond.code yX8_linksAt cX8_linksAt 4 (some .int) ∈ wA := wA_t (i := 897) (by decide +kernel) (by decide +kernel)
theorem kw_898 : Cond.methodLink RX8 157 yX8_away ∈ wA := wA_t (i := 898) (by decide +kernel) (by decide +kernel)
theorem kw_900 : Cond.instanceMethod yX8_away ∈ wA := wA_t (i := 900) (by decide +kernel) (by decide +kernel)
theorem kw_901 : Cond.code yX8_away cX8_away 3 (some .int) ∈ wA := wA_t (i := 901) (by decide +kernel) (by decide +kernel)
theorem kw_902 : Cond.methodLink RL 67 yX8_way ∈ wA := wA_t (i := 902) (by decide +kernel) (by decide +kernel)
theorem kw_903 : Cond.instanceMethod yX8_way ∈ wA := wA_t (i := 903) (by decide +kernel) (by decide +kernel)
theorem kw_904 : Cond.selects RX8 yX8_way yX8_way ∈ wA := wA_t (i := 904) (by decide +kernel) (by decide +kernel)
theorem kw_905 : Cond.code yX8_way cX8_way 5 (some .int) ∈ wA := wA_t (i := 905) (by decide +kernel) (by decide +kernel)
theorem kw_906 : Cond.methodLink RL 71 yX8_tree ∈ wA := wA_t (i := 906) (by decide +kernel) (by decide +kernel)
theorem kw_907 : Cond.instanceMethod yX8_tree ∈ wA := wA_t (i := 907) (by decide +kernel) (by decide +kernel)
theorem kw_908 : Cond.selects RX8 yX8_tree yX8_tree ∈ wA := wA_t (i := 908) (by decide +kernel) (by decide +kernel)
theorem kw_909 : Cond.code yX8_tree cX8_tree 2 (some .int) ∈ wA := wA_t (i := 909) (by decide +kernel) (by decide +kernel)
theorem kw_910 : Cond.methodLink RX8 162 yX8_least ∈ wA := wA_t (i := 910) (by decide +kernel) (by decide +kernel)
theorem kw_912 : Cond.instanceMethod yX8_least ∈ wA := wA_t (i := 912) (by decide +kernel) (by decide +kernel)
theorem kw_913 : Cond.code yX8_least cX8_least 4 (some .int) ∈ wA := wA_t (i := 913) (by decide +kernel) (by decide +kernel)
theorem kw_914 : Cond.methodLink RX8 165 yX8_busiest ∈ wA := wA_t (i := 914) (by decide +kernel) (by decide +kernel)
theorem kw_916 : Cond.instanceMethod yX8_busiest ∈ wA := wA_t (i := 916) (by decide +kernel) (by decide +kernel)
theorem kw_917 : Cond.code yX8_busiest cX8_busiest 3 (some .int) ∈ wA := wA_t (i := 917) (by decide +kernel) (by decide +kernel)
theorem kw_918 : Cond.methodLink RX8 168 yX8_needed ∈ wA := wA_t (i := 918) (by decide +kernel) (by decide +kernel)
theorem kw_920 : Cond.instanceMethod yX8_needed ∈ wA := wA_t (i := 920) (by decide +kernel) (by decide +kernel)
theorem kw_921 : Cond.code yX8_needed cX8_needed 4 (some .int) ∈ wA := wA_t (i := 921) (by decide +kernel) (by decide +kernel)
theorem kw_922 : Cond.methodLink RL 75 yX8_sees ∈ wA := wA_t (i := 922) (by decide +kernel) (by decide +kernel)
theorem kw_923 : Cond.instanceMethod yX8_sees ∈ wA := wA_t (i := 923) (by decide +kernel) (by decide +kernel)
theorem kw_924 : Cond.selects RX8 yX8_sees yX8_sees ∈ wA := wA_t (i := 924) (by decide +kernel) (by decide +kernel)
theorem kw_925 : Cond.code yX8_sees cX8_sees 3 (some .int) ∈ wA := wA_t (i := 925) (by decide +kernel) (by decide +kernel)
theorem kw_926 : Cond.methodLink RL 79 yX8_forget ∈ wA := wA_t (i := 926) (by decide +kernel) (by decide +kernel)
theorem kw_927 : Cond.instanceMethod yX8_forget ∈ wA := wA_t (i := 927) (by decide +kernel) (by decide +kernel)
theorem kw_928 : Cond.selects RX8 yX8_forget yX8_forget ∈ wA := wA_t (i := 928) (by decide +kernel) (by decide +kernel)
theorem kw_929 : Cond.code yX8_forget cX8_forget 2 (some .int) ∈ wA := wA_t (i := 929) (by decide +kernel) (by decide +kernel)
theorem kw_930 : Cond.methodLink RL 83 yX8_which ∈ wA := wA_t (i := 930) (by decide +kernel) (by decide +kernel)
theorem kw_931 : Cond.instanceMethod yX8_which ∈ wA := wA_t (i := 931) (by decide +kernel) (by decide +kernel)
theorem kw_932 : Cond.selects RX8 yX8_which yX8_which ∈ wA := wA_t (i := 932) (by decide +kernel) (by decide +kernel)
theorem kw_933 : Cond.code yX8_which cX8_which 7 (some .int) ∈ wA := wA_t (i := 933) (by decide +kernel) (by decide +kernel)
theorem kw_934 : Cond.methodLink RL 87 yX8_keep ∈ wA := wA_t (i := 934) (by decide +kernel) (by decide +kernel)
theorem kw_935 : Cond.instanceMethod yX8_keep ∈ wA := wA_t (i := 935) (by decide +kernel) (by decide +kernel)
theorem kw_936 : Cond.selects RX8 yX8_keep yX8_keep ∈ wA := wA_t (i := 936) (by decide +kernel) (by decide +kernel)
theorem kw_937 : Cond.code yX8_keep cX8_keep 3 (some .int) ∈ wA := wA_t (i := 937) (by decide +kernel) (by decide +kernel)
theorem kw_938 : Cond.methodLink RL 91 yX8_back ∈ wA := wA_t (i := 938) (by decide +kernel) (by decide +kernel)
theorem kw_939 : Cond.instanceMethod yX8_back ∈ wA := wA_t (i := 939) (by decide +kernel) (by decide +kernel)
theorem kw_940 : Cond.selects RX8 yX8_back yX8_back ∈ wA := wA_t (i := 940) (by decide +kernel) (by decide +kernel)
theorem kw_941 : Cond.code yX8_back cX8_back 3 (some .int) ∈ wA := wA_t (i := 941) (by decide +kernel) (by decide +kernel)
theorem kw_942 : Cond.methodLink RL 95 yX8_count ∈ wA := wA_t (i := 942) (by decide +kernel) (by decide +kernel)
theorem kw_943 : Cond.instanceMethod yX8_count ∈ wA := wA_t (i := 943) (by decide +kernel) (by decide +kernel)
theorem kw_944 : Cond.selects RX8 yX8_count yX8_count ∈ wA := wA_t (i := 944) (by decide +kernel) (by decide +kernel)
theorem kw_945 : Cond.code yX8_count cX8_count 2 (some .int) ∈ wA := wA_t (i := 945) (by decide +kernel) (by decide +kernel)
theorem kw_946 : Cond.fieldLink RJ0 9 "java/lang/String" "value" "[B" ∈ wA := wA_t (i := 946) (by decide +kernel) (by decide +kernel)
theorem kw_947 : Cond.fieldLink RJ0 15 "java/lang/String" "coder" "B" ∈ wA := wA_t (i := 947) (by decide +kernel) (by decide +kernel)
theorem kp_0 : Cond.selects RX5 yX5_takeToken yX5_takeToken ∈ wA := wA_p (i := 0) (q := (yX5_takeToken, 7)) (by decide +kernel) (by decide +kernel)
theorem kp_1 : Cond.selects RX5 yX5_isFigure yX5_isFigure ∈ wA := wA_p (i := 1) (q := (yX5_isFigure, 7)) (by decide +kernel) (by decide +kernel)
theorem kp_2 : Cond.selects RX5 yX5_isSmallLetter yX5_isSmallLetter ∈ wA := wA_p (i := 2) (q := (yX5_isSmallLetter, 7)) (by decide +kernel) (by decide +kernel)
theorem kp_3 : Cond.selects RX5 yX5_readItem yX5_readItem ∈ wA := wA_p (i := 3) (q := (yX5_readItem, 7)) (by decide +kernel) (by decide +kernel)
theorem kp_4 : Cond.selects RX5 yX5_isWord yX5_isWord ∈ wA := wA_p (i := 4) (q := (yX5_isWord, 7)) (by decide +kernel) (by decide +kernel)
theorem kp_5 : Cond.selects RX5 yX5_readNodes yX5_readNodes ∈ wA := wA_p (i := 5) (q := (yX5_readNodes, 7)) (by decide +kernel) (by decide +kernel)
theorem kp_6 : Cond.selects RX5 yX5_takeFigure yX5_takeFigure ∈ wA := wA_p (i := 6) (q := (yX5_takeFigure, 7)) (by decide +kernel) (by decide +kernel)
theorem kp_7 : Cond.selects RX5 yX5_readSource yX5_readSource ∈ wA := wA_p (i := 7) (q := (yX5_readSource, 7)) (by decide +kernel) (by decide +kernel)
theorem kp_8 : Cond.selects RX5 yX5_readLimit yX5_readLimit ∈ wA := wA_p (i := 8) (q := (yX5_readLimit, 7)) (by decide +kernel) (by decide +kernel)
theorem kp_9 : Cond.selects RX5 yX5_readLink yX5_readLink ∈ wA := wA_p (i := 9) (q := (yX5_readLink, 7)) (by decide +kernel) (by decide +kernel)
theorem kp_10 : Cond.selects RX5 yX5_takeSemicolon yX5_takeSemicolon ∈ wA := wA_p (i := 10) (q := (yX5_takeSemicolon, 7)) (by decide +kernel) (by decide +kernel)
theorem kp_11 : Cond.selects RX7 yX7_role yX7_role ∈ wA := wA_p (i := 11) (q := (yX7_role, 9)) (by decide +kernel) (by decide +kernel)
theorem kp_12 : Cond.selects RX7 yX7_hasWay yX7_hasWay ∈ wA := wA_p (i := 12) (q := (yX7_hasWay, 9)) (by decide +kernel) (by decide +kernel)
theorem kp_13 : Cond.selects RX6 yX6_shorten yX6_shorten ∈ wA := wA_p (i := 13) (q := (yX6_shorten, 2)) (by decide +kernel) (by decide +kernel)
theorem kp_14 : Cond.selects RX6 yX6_firstStep yX6_firstStep ∈ wA := wA_p (i := 14) (q := (yX6_firstStep, 2)) (by decide +kernel) (by decide +kernel)
theorem kp_15 : Cond.selects RX0 yX0_nearest yX0_nearest ∈ wA := wA_p (i := 15) (q := (yX0_nearest, 1)) (by decide +kernel) (by decide +kernel)
theorem kp_16 : Cond.selects RX0 yX0_joinAgain yX0_joinAgain ∈ wA := wA_p (i := 16) (q := (yX0_joinAgain, 1)) (by decide +kernel) (by decide +kernel)
theorem kp_17 : Cond.selects RX7 yX7_far yX7_far ∈ wA := wA_p (i := 17) (q := (yX7_far, 9)) (by decide +kernel) (by decide +kernel)
theorem kp_18 : Cond.selects RX7 yX7_fittingNodes yX7_fittingNodes ∈ wA := wA_p (i := 18) (q := (yX7_fittingNodes, 9)) (by decide +kernel) (by decide +kernel)
theorem kp_19 : Cond.selects RX8 yX8_reads yX8_reads ∈ wA := wA_p (i := 19) (q := (yX8_reads, 17)) (by decide +kernel) (by decide +kernel)
theorem kp_20 : Cond.selects RX8 yX8_steps yX8_steps ∈ wA := wA_p (i := 20) (q := (yX8_steps, 17)) (by decide +kernel) (by decide +kernel)
theorem kp_21 : Cond.selects RX8 yX8_at yX8_at ∈ wA := wA_p (i := 21) (q := (yX8_at, 17)) (by decide +kernel) (by decide +kernel)
theorem kp_22 : Cond.selects RX8 yX8_wordOf yX8_wordOf ∈ wA := wA_p (i := 22) (q := (yX8_wordOf, 17)) (by decide +kernel) (by decide +kernel)
theorem kp_23 : Cond.selects RX8 yX8_code yX8_code ∈ wA := wA_p (i := 23) (q := (yX8_code, 17)) (by decide +kernel) (by decide +kernel)
theorem kp_24 : Cond.selects RX8 yX8_takes yX8_takes ∈ wA := wA_p (i := 24) (q := (yX8_takes, 17)) (by decide +kernel) (by decide +kernel)
theorem kp_25 : Cond.selects RX8 yX8_figure yX8_figure ∈ wA := wA_p (i := 25) (q := (yX8_figure, 17)) (by decide +kernel) (by decide +kernel)
theorem kp_26 : Cond.selects RX8 yX8_readsLink yX8_readsLink ∈ wA := wA_p (i := 26) (q := (yX8_readsLink, 17)) (by decide +kernel) (by decide +kernel)
theorem kp_27 : Cond.selects RX8 yX8_areLinked yX8_areLinked ∈ wA := wA_p (i := 27) (q := (yX8_areLinked, 17)) (by decide +kernel) (by decide +kernel)
theorem kp_28 : Cond.selects RX8 yX8_notes yX8_notes ∈ wA := wA_p (i := 28) (q := (yX8_notes, 17)) (by decide +kernel) (by decide +kernel)
theorem kp_29 : Cond.selects RX8 yX8_isNode yX8_isNode ∈ wA := wA_p (i := 29) (q := (yX8_isNode, 17)) (by decide +kernel) (by decide +kernel)
theorem kp_30 : Cond.selects RX8 yX8_nodesOf yX8_nodesOf ∈ wA := wA_p (i := 30) (q := (yX8_nodesOf, 17)) (by decide +kernel) (by decide +kernel)
theorem kp_31 : Cond.selects RX8 yX8_measures yX8_measures ∈ wA := wA_p (i := 31) (q := (yX8_measures, 17)) (by decide +kernel) (by decide +kernel)
theorem kp_32 : Cond.selects RX8 yX8_wayOf yX8_wayOf ∈ wA := wA_p (i := 32) (q := (yX8_wayOf, 17)) (by decide +kernel) (by decide +kernel)
theorem kp_33 : Cond.selects RX8 yX8_nextLink yX8_nextLink ∈ wA := wA_p (i := 33) (q := (yX8_nextLink, 17)) (by decide +kernel) (by decide +kernel)
theorem kp_34 : Cond.selects RX8 yX8_beyond yX8_beyond ∈ wA := wA_p (i := 34) (q := (yX8_beyond, 17)) (by decide +kernel) (by decide +kernel)
theorem kp_35 : Cond.selects RX8 yX8_marks yX8_marks ∈ wA := wA_p (i := 35) (q := (yX8_marks, 17)) (by decide +kernel) (by decide +kernel)
theorem kp_36 : Cond.selects RX8 yX8_markOf yX8_markOf ∈ wA := wA_p (i := 36) (q := (yX8_markOf, 17)) (by decide +kernel) (by decide +kernel)
theorem kp_37 : Cond.selects RX8 yX8_anew yX8_anew ∈ wA := wA_p (i := 37) (q := (yX8_anew, 17)) (by decide +kernel) (by decide +kernel)
theorem kp_38 : Cond.selects RX8 yX8_costOf yX8_costOf ∈ wA := wA_p (i := 38) (q := (yX8_costOf, 17)) (by decide +kernel) (by decide +kernel)
theorem kp_39 : Cond.selects RX8 yX8_bares yX8_bares ∈ wA := wA_p (i := 39) (q := (yX8_bares, 17)) (by decide +kernel) (by decide +kernel)
theorem kp_40 : Cond.selects RX8 yX8_pruned yX8_pruned ∈ wA := wA_p (i := 40) (q := (yX8_pruned, 17)) (by decide +kernel) (by decide +kernel)
theorem kp_41 : Cond.selects RX8 yX8_isLink yX8_isLink ∈ wA := wA_p (i := 41) (q := (yX8_isLink, 17)) (by decide +kernel) (by decide +kernel)
theorem kp_42 : Cond.selects RX8 yX8_hanging yX8_hanging ∈ wA := wA_p (i := 42) (q := (yX8_hanging, 17)) (by decide +kernel) (by decide +kernel)
theorem kp_43 : Cond.selects RX8 yX8_load yX8_load ∈ wA := wA_p (i := 43) (q := (yX8_load, 17)) (by decide +kernel) (by decide +kernel)
theorem kp_44 : Cond.selects RX8 yX8_farOf yX8_farOf ∈ wA := wA_p (i := 44) (q := (yX8_farOf, 17)) (by decide +kernel) (by decide +kernel)
theorem kp_45 : Cond.selects RX8 yX8_linksAt yX8_linksAt ∈ wA := wA_p (i := 45) (q := (yX8_linksAt, 17)) (by decide +kernel) (by decide +kernel)
theorem kp_46 : Cond.selects RX8 yX8_away yX8_away ∈ wA := wA_p (i := 46) (q := (yX8_away, 17)) (by decide +kernel) (by decide +kernel)
theorem kp_47 : Cond.selects RX8 yX8_least yX8_least ∈ wA := wA_p (i := 47) (q := (yX8_least, 17)) (by decide +kernel) (by decide +kernel)
theorem kp_48 : Cond.selects RX8 yX8_busiest yX8_busiest ∈ wA := wA_p (i := 48) (q := (yX8_busiest, 17)) (by decide +kernel) (by decide +kernel)
theorem kp_49 : Cond.selects RX8 yX8_needed yX8_needed ∈ wA := wA_p (i := 49) (q := (yX8_needed, 17)) (by decide +kernel) (by decide +kernel)
theorem inA0 : ∀ w ∈ u_ws RX0 TX0 1, w ∈ wA := by
  have h : u_ws RX0 TX0 1 = [Cond.laysFinal RX0 "TalkTrees$Builder" "ways" "LTalkTrees$Ways;"] := by decide +kernel
  rw [h]
  exact List.forall_mem_cons.mpr ⟨kw_172, fun _ h => absurd h List.not_mem_nil⟩
theorem inA2 : ∀ w ∈ u_ws RX2 TX2 3, w ∈ wA := by
  have h : u_ws RX2 TX2 3 = [Cond.laysFinal RX2 "TalkTrees$Past" "known" "[LTalkTrees$Talk;", Cond.lays RX2 "TalkTrees$Past" "size" "I", Cond.lays RX2 "TalkTrees$Past" "next" "I"] := by decide +kernel
  rw [h]
  exact List.forall_mem_cons.mpr ⟨kw_145, List.forall_mem_cons.mpr ⟨kw_147, List.forall_mem_cons.mpr ⟨kw_149, fun _ h => absurd h List.not_mem_nil⟩⟩⟩
theorem inA3 : ∀ w ∈ u_ws RX3 TX3 3, w ∈ wA := by
  have h : u_ws RX3 TX3 3 = [Cond.laysFinal RX3 "TalkTrees$Sights" "whats" "[I", Cond.laysFinal RX3 "TalkTrees$Sights" "numbers" "[I", Cond.lays RX3 "TalkTrees$Sights" "size" "I"] := by decide +kernel
  rw [h]
  exact List.forall_mem_cons.mpr ⟨kw_187, List.forall_mem_cons.mpr ⟨kw_189, List.forall_mem_cons.mpr ⟨kw_191, fun _ h => absurd h List.not_mem_nil⟩⟩⟩
theorem inA4 : ∀ w ∈ u_ws RX4 TX4 12, w ∈ wA := by
  have h : u_ws RX4 TX4 12 = [Cond.lays RX4 "TalkTrees$Talk" "nodes" "I", Cond.lays RX4 "TalkTrees$Talk" "source" "I", Cond.lays RX4 "TalkTrees$Talk" "limit" "I", Cond.lays RX4 "TalkTrees$Talk" "links" "I", Cond.laysFinal RX4 "TalkTrees$Talk" "first" "[I", Cond.laysFinal RX4 "TalkTrees$Talk" "second" "[I", Cond.laysFinal RX4 "TalkTrees$Talk" "cost" "[I", Cond.lays RX4 "TalkTrees$Talk" "members" "I", Cond.lays RX4 "TalkTrees$Talk" "tree" "I", Cond.lays RX4 "TalkTrees$Talk" "down" "I", Cond.lays RX4 "TalkTrees$Talk" "markCount" "I", Cond.laysFinal RX4 "TalkTrees$Talk" "marks" "[I"] := by decide +kernel
  rw [h]
  exact List.forall_mem_cons.mpr ⟨kw_107, List.forall_mem_cons.mpr ⟨kw_109, List.forall_mem_cons.mpr ⟨kw_111, List.forall_mem_cons.mpr ⟨kw_113, List.forall_mem_cons.mpr ⟨kw_115, List.forall_mem_cons.mpr ⟨kw_117, List.forall_mem_cons.mpr ⟨kw_119, List.forall_mem_cons.mpr ⟨kw_121, List.forall_mem_cons.mpr ⟨kw_123, List.forall_mem_cons.mpr ⟨kw_125, List.forall_mem_cons.mpr ⟨kw_127, List.forall_mem_cons.mpr ⟨kw_129, fun _ h => absurd h List.not_mem_nil⟩⟩⟩⟩⟩⟩⟩⟩⟩⟩⟩⟩
theorem inA5 : ∀ w ∈ u_ws RX5 TX5 7, w ∈ wA := by
  have h : u_ws RX5 TX5 7 = [Cond.laysFinal RX5 "TalkTrees$Text" "letters" "[I", Cond.lays RX5 "TalkTrees$Text" "length" "I", Cond.lays RX5 "TalkTrees$Text" "start" "I", Cond.lays RX5 "TalkTrees$Text" "end" "I", Cond.lays RX5 "TalkTrees$Text" "kind" "I", Cond.lays RX5 "TalkTrees$Text" "figure" "I", Cond.lays RX5 "TalkTrees$Text" "sourceTold" "Z"] := by decide +kernel
  rw [h]
  exact List.forall_mem_cons.mpr ⟨kw_40, List.forall_mem_cons.mpr ⟨kw_42, List.forall_mem_cons.mpr ⟨kw_44, List.forall_mem_cons.mpr ⟨kw_46, List.forall_mem_cons.mpr ⟨kw_48, List.forall_mem_cons.mpr ⟨kw_50, List.forall_mem_cons.mpr ⟨kw_52, fun _ h => absurd h List.not_mem_nil⟩⟩⟩⟩⟩⟩⟩
theorem inA6 : ∀ w ∈ u_ws RX6 TX6 2, w ∈ wA := by
  have h : u_ws RX6 TX6 2 = [Cond.laysFinal RX6 "TalkTrees$Ways" "weights" "[I", Cond.lays RX6 "TalkTrees$Ways" "usable" "I"] := by decide +kernel
  rw [h]
  exact List.forall_mem_cons.mpr ⟨kw_166, List.forall_mem_cons.mpr ⟨kw_168, fun _ h => absurd h List.not_mem_nil⟩⟩
theorem inA7 : ∀ w ∈ u_ws RX7 TX7 9, w ∈ wA := by
  have h : u_ws RX7 TX7 9 = [Cond.laysFinal RX7 "TalkTrees" "text" "LTalkTrees$Text;", Cond.laysFinal RX7 "TalkTrees" "now" "LTalkTrees$Talk;", Cond.laysFinal RX7 "TalkTrees" "told" "LTalkTrees$Talk;", Cond.laysFinal RX7 "TalkTrees" "past" "LTalkTrees$Past;", Cond.laysFinal RX7 "TalkTrees" "builder" "LTalkTrees$Builder;", Cond.laysFinal RX7 "TalkTrees" "ways" "LTalkTrees$Ways;", Cond.laysFinal RX7 "TalkTrees" "sights" "LTalkTrees$Sights;", Cond.laysFinal RX7 "TalkTrees" "images" "[LTalkTrees$Talk;", Cond.laysFinal RX7 "TalkTrees" "kept" "[Z"] := by decide +kernel
  rw [h]
  exact List.forall_mem_cons.mpr ⟨kw_203, List.forall_mem_cons.mpr ⟨kw_205, List.forall_mem_cons.mpr ⟨kw_207, List.forall_mem_cons.mpr ⟨kw_209, List.forall_mem_cons.mpr ⟨kw_211, List.forall_mem_cons.mpr ⟨kw_213, List.forall_mem_cons.mpr ⟨kw_215, List.forall_mem_cons.mpr ⟨kw_217, List.forall_mem_cons.mpr ⟨kw_219, fun _ h => absurd h List.not_mem_nil⟩⟩⟩⟩⟩⟩⟩⟩⟩
theorem inA8 : ∀ w ∈ u_ws RX8 TX8 17, w ∈ wA := by
  have h : u_ws RX8 TX8 17 = [Cond.lays RX8 "TalkTreesModel" "thrown" "I", Cond.laysFinal RX8 "TalkTreesModel" "s" "[I", Cond.laysFinal RX8 "TalkTreesModel" "draft" "[I", Cond.laysFinal RX8 "TalkTreesModel" "past" "[I", Cond.lays RX8 "TalkTreesModel" "undos" "I", Cond.laysFinal RX8 "TalkTreesModel" "kept" "[I", Cond.laysFinal RX8 "TalkTreesModel" "isKept" "[Z", Cond.laysFinal RX8 "TalkTreesModel" "facts" "[I", Cond.lays RX8 "TalkTreesModel" "manyFacts" "I", Cond.laysFinal RX8 "TalkTreesModel" "text" "[B", Cond.lays RX8 "TalkTreesModel" "typed" "I", Cond.lays RX8 "TalkTreesModel" "from" "I", Cond.lays RX8 "TalkTreesModel" "to" "I", Cond.lays RX8 "TalkTreesModel" "token" "I", Cond.lays RX8 "TalkTreesModel" "fault" "I", Cond.laysFinal RX8 "TalkTreesModel" "away" "[I", Cond.lays RX8 "TalkTreesModel" "leastCost" "I"] := by decide +kernel
  rw [h]
  exact List.forall_mem_cons.mpr ⟨kw_697, List.forall_mem_cons.mpr ⟨kw_699, List.forall_mem_cons.mpr ⟨kw_701, List.forall_mem_cons.mpr ⟨kw_703, List.forall_mem_cons.mpr ⟨kw_705, List.forall_mem_cons.mpr ⟨kw_707, List.forall_mem_cons.mpr ⟨kw_709, List.forall_mem_cons.mpr ⟨kw_711, List.forall_mem_cons.mpr ⟨kw_713, List.forall_mem_cons.mpr ⟨kw_715, List.forall_mem_cons.mpr ⟨kw_717, List.forall_mem_cons.mpr ⟨kw_719, List.forall_mem_cons.mpr ⟨kw_721, List.forall_mem_cons.mpr ⟨kw_723, List.forall_mem_cons.mpr ⟨kw_725, List.forall_mem_cons.mpr ⟨kw_727, List.forall_mem_cons.mpr ⟨kw_729, fun _ h => absurd h List.not_mem_nil⟩⟩⟩⟩⟩⟩⟩⟩⟩⟩⟩⟩⟩⟩⟩⟩⟩
end
section
/-! numbers -/
theorem qn_and (a b : Nat) : nI a &&& nI b = nI (a &&& b) := by
  apply Int32.toBitVec_inj.1
  show BitVec.ofNat 32 a &&& BitVec.ofNat 32 b = BitVec.ofNat 32 (a &&& b)
  apply BitVec.eq_of_getLsbD_eq
  intro i hi
  simp [hi]
theorem qn_or (a b : Nat) : nI a ||| nI b = nI (a ||| b) := by
  apply Int32.toBitVec_inj.1
  show BitVec.ofNat 32 a ||| BitVec.ofNat 32 b = BitVec.ofNat 32 (a ||| b)
  apply BitVec.eq_of_getLsbD_eq
  intro i hi
  simp [hi]
/-- a without the bits of b -/
def nd (a b : Nat) : Nat := a ^^^ (a &&& b)
theorem nd_bit (a b i : Nat) : (nd a b).testBit i = (a.testBit i && !b.testBit i) := by
  unfold nd
  rw [Nat.testBit_xor, Nat.testBit_and]
  cases a.testBit i <;> cases b.testBit i <;> rfl
theorem nd_le (a b : Nat) : nd a b ≤ a := by
  apply Nat.le_of_testBit
  intro i h
  rw [nd_bit] at h
  cases h1 : a.testBit i
  · rw [h1] at h; cases h
  · rfl
theorem qn_andn (a b : Nat) : nI a &&& (nI b ^^^ (-1)) = nI (nd a b) := by
  apply Int32.toBitVec_inj.1
  show BitVec.ofNat 32 a &&& (BitVec.ofNat 32 b ^^^ (-1 : Int32).toBitVec) = BitVec.ofNat 32 (nd a b)
  have e1 : (-1 : Int32).toBitVec = BitVec.allOnes 32 := by decide +kernel
  rw [e1]
  apply BitVec.eq_of_getLsbD_eq
  intro i hi
  simp only [BitVec.getLsbD_and, BitVec.getLsbD_xor, BitVec.getLsbD_allOnes, BitVec.getLsbD_ofNat, hi, decide_true, Bool.true_and, nd_bit, Bool.xor_true]
theorem qn_andm1 {a : Nat} : nI a &&& (-1) = nI a := by
  apply Int32.toBitVec_inj.1
  show BitVec.ofNat 32 a &&& (-1 : Int32).toBitVec = BitVec.ofNat 32 a
  have e1 : (-1 : Int32).toBitVec = BitVec.allOnes 32 := by decide +kernel
  rw [e1, BitVec.and_allOnes]
theorem qn_sl : ∀ n, n < 32 → ((nI n &&& 31).toBitVec.smod 32).toNat = n := by decide +kernel
theorem qn_sh1 {k : Nat} (h : k < 31) : nI 1 <<< (nI k &&& 31) = nI (2 ^ k) := by
  have h2 : (2 : Nat) ^ k < 2 ^ 31 := Nat.pow_lt_pow_right (by decide) h
  have := pk_shlN (n := 1) (nI k &&& 31) k (qn_sl k (by omega)) (by omega)
  rwa [Nat.one_mul] at this
theorem qn_shr {a k : Nat} (ha : a < 2 ^ 31) (hk : k < 32) : nI a >>> (nI k &&& 31) = nI (a / 2 ^ k) := pk_shrN ha (nI k &&& 31) k (qn_sl k hk)
theorem qn_bit (a k : Nat) : a / 2 ^ k &&& 1 = if a.testBit k then 1 else 0 := by
  rw [Nat.and_one_is_mod, ← Nat.shiftRight_eq_div_pow]
  have h : a.testBit k = decide (a >>> k % 2 = 1) := by
    rw [Nat.testBit_eq_decide_div_mod_eq, Nat.shiftRight_eq_div_pow]
  rw [h]
  have h2 := Nat.mod_two_eq_zero_or_one (a >>> k)
  rcases h2 with h2 | h2 <;> simp [h2]
theorem qn_upd (f : Nat → Nat) (k x : Nat) : upd (fun j => nI (f j)) k (nI x) = fun j => nI (va_up f k x j) := by
  funext j
  simp only [upd, va_up]
  split <;> rfl
theorem qn_cpy (f g : Nat → Nat) (a b n : Nat) : va_cpy (fun j => nI (f j)) (fun j => nI (g j)) a b n = fun j => nI (va_cpy f g a b n j) := by
  funext j
  simp only [va_cpy]
  split <;> rfl
/-- a boolean as an int -/
def bI (b : Bool) : Int32 := if b then 1 else 0
/-- a place or NONE as an int -/
def oN : Option Nat → Int32
  | none => -9
  | some k => nI k
theorem bI_0 (b : Bool) : bI b = 0 ↔ b = false := by cases b <;> decide
theorem oN_lt {o : Option Nat} (h : ∀ k, o = some k → k < 2 ^ 31) : oN o < 0 ↔ o = none := by
  cases o with
  | none => simp only [oN]; exact ⟨fun _ => trivial, fun _ => by decide⟩
  | some k =>
    simp only [oN]
    exact ⟨fun h9 => absurd h9 (nI_pos (h k rfl)), fun h9 => by cases h9⟩
theorem oN_eq {o : Option Nat} (h : ∀ k, o = some k → k < 2 ^ 31) : oN o = -9 ↔ o = none := by
  constructor
  · intro h9
    rw [← oN_lt h, h9]; decide
  · intro h9; rw [h9]; rfl
/-! the ghosts, the context, the contracts -/
abbrev GG : Type := va_G × (Nat → ClassId)
abbrev tyL (G : GG) : List (ClassId × FieldType) := [(G.2 0, .int), (G.2 1, .boolean), (G.2 2, .byte), (G.2 3, .object RX4)]
def Nst (U : State) : Prop := va_Nw (.methodLinkNest RX7 9 yX5_init RX7) U ∧ va_Nw (.methodLinkNest RX7 18 yX4_init RX7) U ∧ va_Nw (.methodLinkNest RX7 35 yX0_init RX7) U ∧ va_Nw (.methodLinkNest RX7 42 yX6_init RX7) U ∧ va_Nw (.methodLinkNest RX7 49 yX3_init RX7) U ∧ va_Nw (.methodLinkNest RX0 11 yX6_init RX7) U ∧ va_Nw (.methodLinkNest RX0 69 yX7_has RX7) U ∧ va_Nw (.methodLinkNest RX1 55 yX7_has RX7) U ∧ va_Nw (.methodLinkNest RX2 17 yX4_init RX7) U ∧ va_Nw (.methodLinkNest RX4 55 yX7_has RX7) U ∧ va_Nw (.methodLinkNest RX6 43 yX7_has RX7) U
theorem Nst.warm {s U : State} (hW : s.WarmedH U.vm) (h : Nst s) : Nst U := ⟨h.1.warmM hW, h.2.1.warmM hW, h.2.2.1.warmM hW, h.2.2.2.1.warmM hW, h.2.2.2.2.1.warmM hW, h.2.2.2.2.2.1.warmM hW, h.2.2.2.2.2.2.1.warmM hW, h.2.2.2.2.2.2.2.1.warmM hW, h.2.2.2.2.2.2.2.2.1.warmM hW, h.2.2.2.2.2.2.2.2.2.1.warmM hW, h.2.2.2.2.2.2.2.2.2.2.warmM hW⟩
theorem Nst.same {s U : State} (hW : s.vm = U.vm) (h : Nst s) : Nst U := ⟨h.1.same rfl hW, h.2.1.same rfl hW, h.2.2.1.same rfl hW, h.2.2.2.1.same rfl hW, h.2.2.2.2.1.same rfl hW, h.2.2.2.2.2.1.same rfl hW, h.2.2.2.2.2.2.1.same rfl hW, h.2.2.2.2.2.2.2.1.same rfl hW, h.2.2.2.2.2.2.2.2.1.same rfl hW, h.2.2.2.2.2.2.2.2.2.1.same rfl hW, h.2.2.2.2.2.2.2.2.2.2.same rfl hW⟩
def CX (G : GG) (U : State) : Prop := va_K G.1 vwCl (tyL G) U ∧ Nst U
theorem CX.warm {G : GG} {s U : State} (hW : s.WarmedH U.vm) (h : CX G s) : CX G U := ⟨va_K.moved hW.alike h.1, h.2.warm hW⟩
/-- a start: the world w, and the tables -/
def pC (G : GG) (args : List Value) (w : va_W) (sz : Nat) : Array Value → State → Prop := va_Pc args (fun U => U.heap.size = sz ∧ va_P G.1 vwCl w U.heap ∧ CX G U ∧ va_D (fun _ => True) w)
def bW {S : Type} (G : GG) (A : Nat → Prop) (w : S → va_W) : S → State → Prop := fun u t => va_P G.1 vwCl (w u) t.heap ∧ va_D A (w u)
abbrev wM (y : MethodName) (cc : ByteArray) (nL : Nat) (ret : Option FieldType) : List Cond := Cond.code y cc nL ret :: wA
def Mi {S : Type} (l : Launch) (y : MethodName) (cc : ByteArray) (nL : Nat) (ret : Option FieldType) (rm : Room) (G : GG) (args : List Value) (w : va_W) (post : Int32 → S → Prop) (w' : S → va_W) : Prop :=
  ∀ sz : Nat, Met l y (wM y cc nL ret) rm (pC G args w sz) (va_Qi post (bW G (va_A w sz) w') (va_A w sz)) rm.cells rm.slots (va_A w sz)
def Mv {S : Type} (l : Launch) (y : MethodName) (cc : ByteArray) (nL : Nat) (ret : Option FieldType) (rm : Room) (G : GG) (args : List Value) (w : va_W) (post : S → Prop) (w' : S → va_W) : Prop :=
  ∀ sz : Nat, Met l y (wM y cc nL ret) rm (pC G args w sz) (va_Qv post (bW G (va_A w sz) w') (va_A w sz)) rm.cells rm.slots (va_A w sz)
theorem pC_blind {G : GG} {args : List Value} {w : va_W} {sz : Nat} : FrameBlind (pC G args w sz) := by
  intro a U g mk q
  obtain ⟨q0, q1, qP, qX, qD⟩ := q
  exact ⟨q0, q1, qP, ⟨va_K.moved (u := U) (U := U.calling g mk a) (Vm.Alike.refl U.vm) qX.1, Nst.same (s := U) (U := U.calling g mk a) rfl qX.2⟩, qD⟩
abbrev rmN (f lo : Nat) : Room := { frames := f, cells := 0, slots := 0, locals := lo }
section QB
variable {p : Program} {l : Launch} {e : Env} {R : Room} {s : State} {m : MethodId} {args : Array Value} {below : List Frame} {meth : Method} {c : Code} {H : Heap} {locs : List Loc} {cells slots : Nat} {Q : State → Prop}
variable {cc : ByteArray} {pc nL : Nat} {ls : Array Slot} {rest : List Value} {G : GG} {A : Nat → Prop} {a : Nat} {ws : va_W} {H0 : Heap} {own : String}
/-- the body of a method: from its entry -/
theorem Mi.of {S : Type} {y : MethodName} {ret : Option FieldType} {rm : Room} {as : List Value} {w : va_W} {post : Int32 → S → Prop} {w' : S → va_W} (hy : plainName y.cls = true) (hn : (lg_sl as).length ≤ nL)
    (body : ∀ (p : Program) (e : Env) (s : State) (m : MethodId) (below : List Frame) (meth : Method) (c : Code) (A : Nat → Prop) (ls : Array Slot), CallFix p m c cc nL s as.toArray wA y.cls → meth.sig.returnType = ret → meth.locks = false → meth.name = y.name → CX G s → (∀ q, s.heap.size ≤ q → A q) → va_D A w → va_P G.1 vwCl w s.heap → va_S A s.heap s.heap [] → lv_has ls nL (lv_args 0 as) →
      W p l e rm s m as.toArray below meth c s.heap [] 0 0 (MQ below (va_Qi post (bW G A w') A) as.toArray s rm.cells rm.slots A) (F0 m 0 ls [])) : Mi l y cc nL ret rm G as w post w' := by
  intro sz
  refine Met.ofW (cc := cc) (maxL := nL) (ret := ret) hy rfl ?_
  intro p e s m args below meth c s₁ B hml hv
  obtain ⟨rfl, hsz, hP, hX, hD0⟩ := hv
  have hts := atoms_spec (ws := wM y cc nL ret) B.pre
  subst hsz
  rw [lg_entry_eq]
  exact body p e s m below meth c _ _ ⟨B.exec, B.bytes, hml, findClass_of_methodNamed B.named, fun w hw => hts w (List.mem_cons_of_mem _ hw)⟩ B.returns B.notSynchronized (name_of_methodNamed B.named B.method).1 hX (fun q h => Or.inr h) (hD0.self (sz := s.heap.size)) hP va_S.rf (lv_entry as hn)
theorem Mv.of {S : Type} {y : MethodName} {ret : Option FieldType} {rm : Room} {as : List Value} {w : va_W} {post : S → Prop} {w' : S → va_W} (hy : plainName y.cls = true) (hn : (lg_sl as).length ≤ nL)
    (body : ∀ (p : Program) (e : Env) (s : State) (m : MethodId) (below : List Frame) (meth : Method) (c : Code) (A : Nat → Prop) (ls : Array Slot), CallFix p m c cc nL s as.toArray wA y.cls → meth.sig.returnType = ret → meth.locks = false → meth.name = y.name → CX G s → (∀ q, s.heap.size ≤ q → A q) → va_D A w → va_P G.1 vwCl w s.heap → va_S A s.heap s.heap [] → lv_has ls nL (lv_args 0 as) →
      W p l e rm s m as.toArray below meth c s.heap [] 0 0 (MQ below (va_Qv post (bW G A w') A) as.toArray s rm.cells rm.slots A) (F0 m 0 ls [])) : Mv l y cc nL ret rm G as w post w' := by
  intro sz
  refine Met.ofW (cc := cc) (maxL := nL) (ret := ret) hy rfl ?_
  intro p e s m args below meth c s₁ B hml hv
  obtain ⟨rfl, hsz, hP, hX, hD0⟩ := hv
  have hts := atoms_spec (ws := wM y cc nL ret) B.pre
  subst hsz
  rw [lg_entry_eq]
  exact body p e s m below meth c _ _ ⟨B.exec, B.bytes, hml, findClass_of_methodNamed B.named, fun w hw => hts w (List.mem_cons_of_mem _ hw)⟩ B.returns B.notSynchronized (name_of_methodNamed B.named B.method).1 hX (fun q h => Or.inr h) (hD0.self (sz := s.heap.size)) hP va_S.rf (lv_entry as hn)
/-- its end -/
theorem re_i {S : Type} {post : Int32 → S → Prop} {w' : S → va_W} {v : Int32} (hx : p.tables.exec = Jvm.exec) (hb : c.code = cc) (hr : meth.sig.returnType = some .int) (hlocks : meth.locks = false) (hS : va_S A s.heap H locs) (u : S) (hP : va_P G.1 vwCl (w' u) H) (hD : va_D A (w' u)) (hp : post v u) (hdg : decode cc pc = .ok (.ireturn, 1)) :
    W p l e R s m args below meth c H locs cells slots (MQ below (va_Qi post (bW G A w') A) args s cells slots A) (F0 m pc ls [.int v]) :=
  W.iret (v := v) hx hb hr (fun t ht _ => ⟨⟨v, u, rfl, hp, by rw [ht]; exact hP, hD⟩, hS.F ht⟩) hS.2.2 hdg hlocks
theorem re_z {S : Type} {post : Int32 → S → Prop} {w' : S → va_W} {v : Int32} (hx : p.tables.exec = Jvm.exec) (hb : c.code = cc) (hr : meth.sig.returnType = some .boolean) (hlocks : meth.locks = false) (hS : va_S A s.heap H locs) (u : S) (hP : va_P G.1 vwCl (w' u) H) (hD : va_D A (w' u)) (hp : post v u) (hn : narrow .boolean (.int v) = .int v) (hdg : decode cc pc = .ok (.ireturn, 1)) :
    W p l e R s m args below meth c H locs cells slots (MQ below (va_Qi post (bW G A w') A) args s cells slots A) (F0 m pc ls [.int v]) :=
  W.zret (v := v) hx hb hr hn (fun t ht _ => ⟨⟨v, u, rfl, hp, by rw [ht]; exact hP, hD⟩, hS.F ht⟩) hS.2.2 hdg hlocks
theorem re_v {S : Type} {post : S → Prop} {w' : S → va_W} (hx : p.tables.exec = Jvm.exec) (hb : c.code = cc) (hr : meth.sig.returnType = none) (hlocks : meth.locks = false) (hS : va_S A s.heap H locs) (u : S) (hP : va_P G.1 vwCl (w' u) H) (hD : va_D A (w' u)) (hp : post u) (hdg : decode cc pc = .ok (.return_, 1)) :
    W p l e R s m args below meth c H locs cells slots (MQ below (va_Qv post (bW G A w') A) args s cells slots A) (F0 m pc ls []) :=
  W.vret hx hb hr (fun t ht _ => ⟨⟨u, rfl, hp, by rw [ht]; exact hP, hD⟩, hS.F ht⟩) hS.2.2 hdg hlocks
/-- the top, renamed -/
theorem ti {x y : Int32} (h : x = y) (k : W p l e R s m args below meth c H locs cells slots Q (F0 m pc ls (.int y :: rest))) : W p l e R s m args below meth c H locs cells slots Q (F0 m pc ls (.int x :: rest)) := h ▸ k
/-- comparisons of numbers that aren't negative -/
theorem nv_lt (hx : p.tables.exec = Jvm.exec) (hb : c.code = cc) {x y : Nat} {off : Int} {tgt : Nat} (hdg : decode cc pc = .ok (.if_icmp .lt off, 3)) (ht : (pc : Int) + off = (tgt : Int)) (h1 : x < 2 ^ 31) (h2 : y < 2 ^ 31) (k1 : x < y → W p l e R s m args below meth c H locs cells slots Q (F0 m tgt ls rest)) (k2 : y ≤ x → W p l e R s m args below meth c H locs cells slots Q (F0 m (pc + 3) ls rest)) : W p l e R s m args below meth c H locs cells slots Q (F0 m pc ls (.int (nI y) :: .int (nI x) :: rest)) :=
  lv_icmp_lt hx hb hdg ht (fun h => k1 ((nI_ltI h1 h2).mp h)) (fun h => k2 (Nat.not_lt.mp fun q => h ((nI_ltI h1 h2).mpr q)))
theorem nv_ge (hx : p.tables.exec = Jvm.exec) (hb : c.code = cc) {x y : Nat} {off : Int} {tgt : Nat} (hdg : decode cc pc = .ok (.if_icmp .ge off, 3)) (ht : (pc : Int) + off = (tgt : Int)) (h1 : x < 2 ^ 31) (h2 : y < 2 ^ 31) (k1 : y ≤ x → W p l e R s m args below meth c H locs cells slots Q (F0 m tgt ls rest)) (k2 : x < y → W p l e R s m args below meth c H locs cells slots Q (F0 m (pc + 3) ls rest)) : W p l e R s m args below meth c H locs cells slots Q (F0 m pc ls (.int (nI y) :: .int (nI x) :: rest)) :=
  lv_icmp_ge hx hb hdg ht (fun h => k1 ((nI_leI h2 h1).mp h)) (fun h => k2 (Nat.not_le.mp fun q => h ((nI_leI h2 h1).mpr q)))
theorem nv_gt (hx : p.tables.exec = Jvm.exec) (hb : c.code = cc) {x y : Nat} {off : Int} {tgt : Nat} (hdg : decode cc pc = .ok (.if_icmp .gt off, 3)) (ht : (pc : Int) + off = (tgt : Int)) (h1 : x < 2 ^ 31) (h2 : y < 2 ^ 31) (k1 : y < x → W p l e R s m args below meth c H locs cells slots Q (F0 m tgt ls rest)) (k2 : x ≤ y → W p l e R s m args below meth c H locs cells slots Q (F0 m (pc + 3) ls rest)) : W p l e R s m args below meth c H locs cells slots Q (F0 m pc ls (.int (nI y) :: .int (nI x) :: rest)) :=
  lv_icmp_gt hx hb hdg ht (fun h => k1 ((nI_ltI h2 h1).mp h)) (fun h => k2 (Nat.not_lt.mp fun q => h ((nI_ltI h2 h1).mpr q)))
theorem nv_le (hx : p.tables.exec = Jvm.exec) (hb : c.code = cc) {x y : Nat} {off : Int} {tgt : Nat} (hdg : decode cc pc = .ok (.if_icmp .le off, 3)) (ht : (pc : Int) + off = (tgt : Int)) (h1 : x < 2 ^ 31) (h2 : y < 2 ^ 31) (k1 : x ≤ y → W p l e R s m args below meth c H locs cells slots Q (F0 m tgt ls rest)) (k2 : y < x → W p l e R s m args below meth c H locs cells slots Q (F0 m (pc + 3) ls rest)) : W p l e R s m args below meth c H locs cells slots Q (F0 m pc ls (.int (nI y) :: .int (nI x) :: rest)) :=
  lv_icmp_le hx hb hdg ht (fun h => k1 ((nI_leI h1 h2).mp h)) (fun h => k2 (Nat.not_le.mp fun q => h ((nI_leI h1 h2).mpr q)))
theorem nv_eq (hx : p.tables.exec = Jvm.exec) (hb : c.code = cc) {x y : Nat} {off : Int} {tgt : Nat} (hdg : decode cc pc = .ok (.if_icmp .eq off, 3)) (ht : (pc : Int) + off = (tgt : Int)) (h1 : x < 2 ^ 31) (h2 : y < 2 ^ 31) (k1 : x = y → W p l e R s m args below meth c H locs cells slots Q (F0 m tgt ls rest)) (k2 : x ≠ y → W p l e R s m args below meth c H locs cells slots Q (F0 m (pc + 3) ls rest)) : W p l e R s m args below meth c H locs cells slots Q (F0 m pc ls (.int (nI y) :: .int (nI x) :: rest)) :=
  lv_icmp_eq hx hb hdg ht (fun h => k1 ((nI_eq h1 h2).mp h)) (fun h => k2 (fun q => h ((nI_eq h1 h2).mpr q)))
theorem nv_ne (hx : p.tables.exec = Jvm.exec) (hb : c.code = cc) {x y : Nat} {off : Int} {tgt : Nat} (hdg : decode cc pc = .ok (.if_icmp .ne off, 3)) (ht : (pc : Int) + off = (tgt : Int)) (h1 : x < 2 ^ 31) (h2 : y < 2 ^ 31) (k1 : x ≠ y → W p l e R s m args below meth c H locs cells slots Q (F0 m tgt ls rest)) (k2 : x = y → W p l e R s m args below meth c H locs cells slots Q (F0 m (pc + 3) ls rest)) : W p l e R s m args below meth c H locs cells slots Q (F0 m pc ls (.int (nI y) :: .int (nI x) :: rest)) :=
  lv_icmp_ne hx hb hdg ht (fun h => k1 (fun q => h ((nI_eq h1 h2).mpr q))) (fun h => k2 ((nI_eq h1 h2).mp h))
theorem nv_zeq (hx : p.tables.exec = Jvm.exec) (hb : c.code = cc) {x : Nat} {off : Int} {tgt : Nat} (hdg : decode cc pc = .ok (.ifCond .eq off, 3)) (ht : (pc : Int) + off = (tgt : Int)) (h1 : x < 2 ^ 31) (k1 : x = 0 → W p l e R s m args below meth c H locs cells slots Q (F0 m tgt ls rest)) (k2 : x ≠ 0 → W p l e R s m args below meth c H locs cells slots Q (F0 m (pc + 3) ls rest)) : W p l e R s m args below meth c H locs cells slots Q (F0 m pc ls (.int (nI x) :: rest)) :=
  lv_if_eq hx hb hdg ht (fun h => k1 ((nI_eq h1 (by decide)).mp h)) (fun h => k2 (fun q => h ((nI_eq h1 (by decide)).mpr q)))
theorem nv_zne (hx : p.tables.exec = Jvm.exec) (hb : c.code = cc) {x : Nat} {off : Int} {tgt : Nat} (hdg : decode cc pc = .ok (.ifCond .ne off, 3)) (ht : (pc : Int) + off = (tgt : Int)) (h1 : x < 2 ^ 31) (k1 : x ≠ 0 → W p l e R s m args below meth c H locs cells slots Q (F0 m tgt ls rest)) (k2 : x = 0 → W p l e R s m args below meth c H locs cells slots Q (F0 m (pc + 3) ls rest)) : W p l e R s m args below meth c H locs cells slots Q (F0 m pc ls (.int (nI x) :: rest)) :=
  lv_if_ne hx hb hdg ht (fun h => k1 (fun q => h ((nI_eq h1 (by decide)).mpr q))) (fun h => k2 ((nI_eq h1 (by decide)).mp h))
theorem nv_zgt (hx : p.tables.exec = Jvm.exec) (hb : c.code = cc) {x : Nat} {off : Int} {tgt : Nat} (hdg : decode cc pc = .ok (.ifCond .gt off, 3)) (ht : (pc : Int) + off = (tgt : Int)) (h1 : x < 2 ^ 31) (k1 : 0 < x → W p l e R s m args below meth c H locs cells slots Q (F0 m tgt ls rest)) (k2 : x = 0 → W p l e R s m args below meth c H locs cells slots Q (F0 m (pc + 3) ls rest)) : W p l e R s m args below meth c H locs cells slots Q (F0 m pc ls (.int (nI x) :: rest)) :=
  lv_if_gt hx hb hdg ht (fun h => k1 ((nI_ltI (by decide) h1).mp h)) (fun h => k2 (Nat.eq_zero_of_not_pos (fun q => h ((nI_ltI (by decide : 0 < 2 ^ 31) h1).mpr q))))
theorem nv_zle (hx : p.tables.exec = Jvm.exec) (hb : c.code = cc) {x : Nat} {off : Int} {tgt : Nat} (hdg : decode cc pc = .ok (.ifCond .le off, 3)) (ht : (pc : Int) + off = (tgt : Int)) (h1 : x < 2 ^ 31) (k1 : x = 0 → W p l e R s m args below meth c H locs cells slots Q (F0 m tgt ls rest)) (k2 : 0 < x → W p l e R s m args below meth c H locs cells slots Q (F0 m (pc + 3) ls rest)) : W p l e R s m args below meth c H locs cells slots Q (F0 m pc ls (.int (nI x) :: rest)) :=
  lv_if_le hx hb hdg ht (fun h => k1 (by have := (nI_leI h1 (by decide : 0 < 2 ^ 31)).mp h; omega)) (fun h => k2 (Nat.pos_of_ne_zero (fun q => h ((nI_leI h1 (by decide : 0 < 2 ^ 31)).mpr (Nat.le_of_eq q)))))
theorem nv_zlt (hx : p.tables.exec = Jvm.exec) (hb : c.code = cc) {x : Nat} {off : Int} {tgt : Nat} (hdg : decode cc pc = .ok (.ifCond .lt off, 3)) (ht : (pc : Int) + off = (tgt : Int)) (h1 : x < 2 ^ 31) (k2 : W p l e R s m args below meth c H locs cells slots Q (F0 m (pc + 3) ls rest)) : W p l e R s m args below meth c H locs cells slots Q (F0 m pc ls (.int (nI x) :: rest)) :=
  lv_if_lt hx hb hdg ht (fun h => absurd h (nI_pos h1)) (fun _ => k2)
theorem nv_zge (hx : p.tables.exec = Jvm.exec) (hb : c.code = cc) {x : Nat} {off : Int} {tgt : Nat} (hdg : decode cc pc = .ok (.ifCond .ge off, 3)) (ht : (pc : Int) + off = (tgt : Int)) (h1 : x < 2 ^ 31) (k1 : W p l e R s m args below meth c H locs cells slots Q (F0 m tgt ls rest)) : W p l e R s m args below meth c H locs cells slots Q (F0 m pc ls (.int (nI x) :: rest)) :=
  lv_if_ge hx hb hdg ht (fun _ => k1) (fun h => absurd (nI_pos' h1) h)
theorem bv_eq (hx : p.tables.exec = Jvm.exec) (hb : c.code = cc) {b : Bool} {off : Int} {tgt : Nat} (hdg : decode cc pc = .ok (.ifCond .eq off, 3)) (ht : (pc : Int) + off = (tgt : Int)) (k1 : b = false → W p l e R s m args below meth c H locs cells slots Q (F0 m tgt ls rest)) (k2 : b = true → W p l e R s m args below meth c H locs cells slots Q (F0 m (pc + 3) ls rest)) : W p l e R s m args below meth c H locs cells slots Q (F0 m pc ls (.int (bI b) :: rest)) :=
  lv_if_eq hx hb hdg ht (fun h => k1 ((bI_0 b).mp h)) (fun h => k2 (by cases b; exact absurd rfl h; rfl))
theorem bv_ne (hx : p.tables.exec = Jvm.exec) (hb : c.code = cc) {b : Bool} {off : Int} {tgt : Nat} (hdg : decode cc pc = .ok (.ifCond .ne off, 3)) (ht : (pc : Int) + off = (tgt : Int)) (k1 : b = true → W p l e R s m args below meth c H locs cells slots Q (F0 m tgt ls rest)) (k2 : b = false → W p l e R s m args below meth c H locs cells slots Q (F0 m (pc + 3) ls rest)) : W p l e R s m args below meth c H locs cells slots Q (F0 m pc ls (.int (bI b) :: rest)) :=
  lv_if_ne hx hb hdg ht (fun h => k1 (by cases b; exact absurd rfl h; rfl)) (fun h => k2 ((bI_0 b).mp h))
/-- arrays of numbers -/
theorem nv_ald (hx : p.tables.exec = Jvm.exec) (hb : c.code = cc) (hX : CX G s) (hP : va_P G.1 vwCl ws H) (q0 : Nat) {n k : Nat} {f : Nat → Nat} (ha : ws[q0]? = some (a, .inl (G.2 0, n, .inl (fun j => nI (f j))))) (hk : k < n) (hn : n < 2 ^ 31) (hdg : decode cc pc = .ok (.iaload, 1)) (kk : W p l e R s m args below meth c H locs cells slots Q (F0 m (pc + 1) ls (.int (nI (f k)) :: rest))) : W p l e R s m args below meth c H locs cells slots Q (F0 m pc ls (.int (nI k) :: .ref a :: rest)) := by
  refine va_iald hx hb hX.1 hP q0 0 ha rfl (vp_in_nI hk hn) hdg ?_
  rw [nI_clamp (by omega)]
  exact kk
theorem nv_aldI (hx : p.tables.exec = Jvm.exec) (hb : c.code = cc) (hX : CX G s) (hP : va_P G.1 vwCl ws H) (q0 : Nat) {n k : Nat} {f : Nat → Int32} (ha : ws[q0]? = some (a, .inl (G.2 0, n, .inl f))) (hk : k < n) (hn : n < 2 ^ 31) (hdg : decode cc pc = .ok (.iaload, 1)) (kk : W p l e R s m args below meth c H locs cells slots Q (F0 m (pc + 1) ls (.int (f k) :: rest))) : W p l e R s m args below meth c H locs cells slots Q (F0 m pc ls (.int (nI k) :: .ref a :: rest)) := by
  refine va_iald hx hb hX.1 hP q0 0 ha rfl (vp_in_nI hk hn) hdg ?_
  rw [nI_clamp (by omega)]
  exact kk
theorem nv_ast (hx : p.tables.exec = Jvm.exec) (hb : c.code = cc) (hX : CX G s) (hP : va_P G.1 vwCl ws H) (hD : va_D A ws) (hS : va_S A H0 H locs) (q0 : Nat) {n k v : Nat} {f : Nat → Nat} (ha : ws[q0]? = some (a, .inl (G.2 0, n, .inl (fun j => nI (f j))))) (hk : k < n) (hn : n < 2 ^ 31) (hdg : decode cc pc = .ok (.iastore, 1)) (kk : ∀ (H1 : Heap) (locs1 : List Loc), va_P G.1 vwCl (ws.set q0 (a, .inl (G.2 0, n, .inl (fun j => nI (va_up f k v j))))) H1 → va_D A (ws.set q0 (a, .inl (G.2 0, n, .inl (fun j => nI (va_up f k v j))))) → va_S A H0 H1 locs1 → W p l e R s m args below meth c H1 locs1 cells slots Q (F0 m (pc + 1) ls rest)) : W p l e R s m args below meth c H locs cells slots Q (F0 m pc ls (.int (nI v) :: .int (nI k) :: .ref a :: rest)) := by
  refine va_iast hx hb hX.1 hP hD hS q0 0 ha rfl (vp_in_nI hk hn) hdg ?_
  rw [nI_clamp (by omega), qn_upd]
  exact kk
theorem nv_astI (hx : p.tables.exec = Jvm.exec) (hb : c.code = cc) (hX : CX G s) (hP : va_P G.1 vwCl ws H) (hD : va_D A ws) (hS : va_S A H0 H locs) (q0 : Nat) {n k : Nat} {v : Int32} {f : Nat → Int32} (ha : ws[q0]? = some (a, .inl (G.2 0, n, .inl f))) (hk : k < n) (hn : n < 2 ^ 31) (hdg : decode cc pc = .ok (.iastore, 1)) (kk : ∀ (H1 : Heap) (locs1 : List Loc), va_P G.1 vwCl (ws.set q0 (a, .inl (G.2 0, n, .inl (upd f k v)))) H1 → va_D A (ws.set q0 (a, .inl (G.2 0, n, .inl (upd f k v)))) → va_S A H0 H1 locs1 → W p l e R s m args below meth c H1 locs1 cells slots Q (F0 m (pc + 1) ls rest)) : W p l e R s m args below meth c H locs cells slots Q (F0 m pc ls (.int v :: .int (nI k) :: .ref a :: rest)) := by
  refine va_iast hx hb hX.1 hP hD hS q0 0 ha rfl (vp_in_nI hk hn) hdg ?_
  rw [nI_clamp (by omega)]
  exact kk
end QB
end
section
/-! worlds up to order; calls with their frame -/
theorem wp_mem {D : va_G} {cl : List vw_C} {ws : va_W} {H : Heap} : va_P D cl ws H ↔ ∀ q ∈ ws, va_at D cl q H := by
  constructor
  · intro h q hq
    obtain ⟨i, hi⟩ := List.getElem?_of_mem hq
    exact h i q hi
  · intro h k q hk
    exact h q (List.mem_of_getElem? hk)
theorem wd_iff {A : Nat → Prop} {ws : va_W} : va_D A ws ↔ (ws.map Prod.fst).Nodup ∧ ∀ q ∈ ws, A q.1 := by
  constructor
  · intro h
    refine ⟨?_, ?_⟩
    · rw [List.Nodup, List.pairwise_map, List.pairwise_iff_getElem]
      intro i j hi hj hij e
      have := h.1 i j ws[i] ws[j] (by simp [hi]) (by simp [hj]) e
      omega
    · intro q hq
      obtain ⟨i, hi⟩ := List.getElem?_of_mem hq
      exact h.2 i q hi
  · intro h
    refine ⟨?_, fun k q hk => h.2 q (List.mem_of_getElem? hk)⟩
    have h1 := h.1
    rw [List.Nodup, List.pairwise_map, List.pairwise_iff_getElem] at h1
    intro i j x y hi hj e
    obtain ⟨hi', rfl⟩ := List.getElem?_eq_some_iff.mp hi
    obtain ⟨hj', rfl⟩ := List.getElem?_eq_some_iff.mp hj
    rcases Nat.lt_trichotomy i j with h9 | h9 | h9
    · exact absurd e (h1 i j hi' hj' h9)
    · exact h9
    · exact absurd e.symm (h1 j i hj' hi' h9)
theorem wp_pm {D : va_G} {cl : List vw_C} {ws wt : va_W} {H : Heap} (hp : ws.Perm wt) (h : va_P D cl ws H) : va_P D cl wt H := wp_mem.mpr fun q hq => wp_mem.mp h q (hp.mem_iff.mpr hq)
theorem wd_pm {A : Nat → Prop} {ws wt : va_W} (hp : ws.Perm wt) (h : va_D A ws) : va_D A wt := by
  have h := wd_iff.mp h
  exact wd_iff.mpr ⟨(hp.map Prod.fst).nodup_iff.mp h.1, fun q hq => h.2 q (hp.mem_iff.mpr hq)⟩
theorem wp_l {D : va_G} {cl : List vw_C} {ws wt : va_W} {H : Heap} (h : va_P D cl (ws ++ wt) H) : va_P D cl ws H := wp_mem.mpr fun q hq => wp_mem.mp h q (List.mem_append_left _ hq)
theorem wp_r {D : va_G} {cl : List vw_C} {ws wt : va_W} {H : Heap} (h : va_P D cl (ws ++ wt) H) : va_P D cl wt H := wp_mem.mpr fun q hq => wp_mem.mp h q (List.mem_append_right _ hq)
theorem wd_l {A : Nat → Prop} {ws wt : va_W} (h : va_D A (ws ++ wt)) : va_D A ws := by
  have h := wd_iff.mp h
  rw [List.map_append, List.nodup_append] at h
  exact wd_iff.mpr ⟨h.1.1, fun q hq => h.2 q (List.mem_append_left _ hq)⟩
theorem wa_mem {ws : va_W} {sz q : Nat} : va_A ws sz q ↔ (∃ x ∈ ws, x.1 = q) ∨ sz ≤ q := by
  unfold va_A
  constructor
  · rintro (⟨k, e, h⟩ | h)
    · exact Or.inl ⟨(q, e), List.mem_of_getElem? h, rfl⟩
    · exact Or.inr h
  · rintro (⟨x, hx, rfl⟩ | h)
    · obtain ⟨i, hi⟩ := List.getElem?_of_mem hx
      exact Or.inl ⟨i, x.2, hi⟩
    · exact Or.inr h
/-- what a callee has changed, beside the rest -/
theorem wj_both {A : Nat → Prop} {D : va_G} {cl : List vw_C} {wc wr w1 : va_W} {H H1 : Heap} (hP : va_P D cl (wc ++ wr) H) (hD : va_D A (wc ++ wr)) (hF : ∀ q, va_A wc H.size q → A q) (hk : ∀ q : Nat, q < H.size → ¬ va_A wc H.size q → H1[q]? = H[q]?) (hP1 : va_P D cl w1 H1) (hD1 : va_D (va_A wc H.size) w1) : va_P D cl (w1 ++ wr) H1 ∧ va_D A (w1 ++ wr) := by
  have hD' := wd_iff.mp hD
  have hD1' := wd_iff.mp hD1
  rw [List.map_append, List.nodup_append] at hD'
  have apart : ∀ q ∈ wr, q.1 < H.size ∧ ¬ va_A wc H.size q.1 := by
    intro q hq
    have hl := (wp_mem.mp hP q (List.mem_append_right _ hq)).lt
    refine ⟨hl, fun h => ?_⟩
    rcases wa_mem.mp h with ⟨x, hx, e⟩ | h
    · exact hD'.1.2.2 x.1 (List.mem_map_of_mem hx) q.1 (List.mem_map_of_mem hq) e
    · omega
  refine ⟨wp_mem.mpr fun q hq => ?_, wd_iff.mpr ⟨?_, fun q hq => ?_⟩⟩
  · rcases List.mem_append.mp hq with h | h
    · exact wp_mem.mp hP1 q h
    · exact (wp_mem.mp hP q (List.mem_append_right _ h)).kept (hk q.1 (apart q h).1 (apart q h).2)
  · rw [List.map_append, List.nodup_append]
    refine ⟨hD1'.1, hD'.1.2.1, ?_⟩
    intro x hx y hy e
    obtain ⟨x', hx', rfl⟩ := List.mem_map.mp hx
    obtain ⟨y', hy', rfl⟩ := List.mem_map.mp hy
    exact (apart y' hy').2 (by rw [← e]; exact hD1'.2 x' hx')
  · rcases List.mem_append.mp hq with h | h
    · exact hF _ (hD1'.2 q h)
    · exact hD'.2 q (List.mem_append_right _ h)
theorem gA_in {c : Cond} (hc : c ∈ wA) : GoodIn wA (c :: wA) := by
  intro w h
  rcases List.mem_cons.mp h with rfl | h
  · exact ⟨hc, good_of_word (wA_good _ hc)⟩
  · exact ⟨h, good_of_word (wA_good _ h)⟩
abbrev hdOK (y : MethodName) (n : Nat) : Prop := y.cls ≠ "java/lang/invoke/MethodHandle" ∧ y.cls ≠ "java/lang/invoke/VarHandle" ∧ (parseMethodDescriptor y.desc).map (fun d => d.parameters.length) = some n
section QC
variable {p : Program} {l : Launch} {e : Env} {R : Room} {s : State} {m : MethodId} {args : Array Value} {below : List Frame} {meth : Method} {c : Code} {H : Heap} {locs : List Loc} {cells slots : Nat} {Q : State → Prop}
variable {cc : ByteArray} {pc nL : Nat} {ls : Array Slot} {rest st0 : List Value} {G : GG} {A : Nat → Prop} {ws wc wr : va_W} {own : String}
variable {S : Type} {y : MethodName} {bytes : ByteArray} {maxL n index b ci : Nat} {ret : Option FieldType} {rm : Room} {as : List Value} {w' : S → va_W} {C host : String}
theorem fr_i {post : Int32 → S → Prop} (hr : va_Run p l e R s m args below meth c H locs cells slots rm.cells rm.slots (F0 m pc ls st0) rest (va_Qi post (bW G (va_A wc H.size) w') (va_A wc H.size) as.toArray) (va_A wc H.size)) (hP : va_P G.1 vwCl (wc ++ wr) H) (hD : va_D A (wc ++ wr)) (hS : va_S A s.heap H locs) (hA : ∀ q, s.heap.size ≤ q → A q)
    (kk : ∀ (r : Int32) (u : S) (H1 : Heap) (locs1 : List Loc), post r u → va_P G.1 vwCl (w' u ++ wr) H1 → va_D A (w' u ++ wr) → va_S A s.heap H1 locs1 → W p l e R s m args below meth c H1 locs1 (cells + rm.cells) (slots + rm.slots) Q (F0 m (pc + 3) ls (.int r :: rest))) : W p l e R s m args below meth c H locs cells slots Q (F0 m pc ls st0) := by
  have hF : ∀ q, va_A wc H.size q → A q := by
    intro q h
    rcases wa_mem.mp h with ⟨x, hx, rfl⟩ | h
    · exact (wd_iff.mp hD).2 x (List.mem_append_left _ hx)
    · exact hA q (Nat.le_trans hS.1 h)
  refine va_calli hr hS (fun q _ h => hF q h) hF (fun r u t H1 locs1 ht hvm hw hB hz1 hk1 hS1 => ?_)
  obtain ⟨hP1, hD1⟩ := hB
  rw [ht] at hP1
  obtain ⟨g1, g2⟩ := wj_both hP hD hF hk1 hP1 hD1
  exact kk r u H1 locs1 hw g1 g2 hS1
theorem fr_v {post : S → Prop} (hr : va_Run p l e R s m args below meth c H locs cells slots rm.cells rm.slots (F0 m pc ls st0) rest (va_Qv post (bW G (va_A wc H.size) w') (va_A wc H.size) as.toArray) (va_A wc H.size)) (hP : va_P G.1 vwCl (wc ++ wr) H) (hD : va_D A (wc ++ wr)) (hS : va_S A s.heap H locs) (hA : ∀ q, s.heap.size ≤ q → A q)
    (kk : ∀ (u : S) (H1 : Heap) (locs1 : List Loc), post u → va_P G.1 vwCl (w' u ++ wr) H1 → va_D A (w' u ++ wr) → va_S A s.heap H1 locs1 → W p l e R s m args below meth c H1 locs1 (cells + rm.cells) (slots + rm.slots) Q (F0 m (pc + 3) ls rest)) : W p l e R s m args below meth c H locs cells slots Q (F0 m pc ls st0) := by
  have hF : ∀ q, va_A wc H.size q → A q := by
    intro q h
    rcases wa_mem.mp h with ⟨x, hx, rfl⟩ | h
    · exact (wd_iff.mp hD).2 x (List.mem_append_left _ hx)
    · exact hA q (Nat.le_trans hS.1 h)
  refine va_callv hr hS (fun q _ h => hF q h) hF (fun u t H1 locs1 ht hvm hw hB hz1 hk1 hS1 => ?_)
  obtain ⟨hP1, hD1⟩ := hB
  rw [ht] at hP1
  obtain ⟨g1, g2⟩ := wj_both hP hD hF hk1 hP1 hD1
  exact kk u H1 locs1 hw g1 g2 hS1
/-- the words of a call -/
theorem cA_B (hts : ∀ w ∈ wA, w.before args s = true) (hc : Cond.code y bytes maxL ret ∈ wA) (hini : Cond.initialized y.cls ∈ wA) (hl : Cond.methodLink own index y ∈ wA) (hd : hdOK y n) (hR : rm.frames + 1 ≤ R.frames ∧ 8 + (maxL + 11) + rm.locals ≤ R.locals) : CallB R s args own index y bytes maxL ret (wM y bytes maxL ret) rm rm.cells rm.slots n :=
  callB_of n hts (gA_in hc) rfl rfl rfl (hts _ hini) (hts _ hl) hd hR
theorem cA_V (hts : ∀ w ∈ wA, w.before args s = true) (hc : Cond.code y bytes maxL ret ∈ wA) (hini : Cond.initialized y.cls ∈ wA) (hl : Cond.methodLink own index y ∈ wA) (hi : Cond.instanceMethod y ∈ wA) (hse : Cond.selects C y y ∈ wA) (hd : hdOK y n) (hR : rm.frames + 1 ≤ R.frames ∧ 8 + (maxL + 11) + rm.locals ≤ R.locals) : CallW R s args own C index y bytes maxL ret (wM y bytes maxL ret) rm rm.cells rm.slots n :=
  ⟨cA_B hts hc hini hl hd hR, hts _ hi, hts _ hse⟩
theorem cA_S (hts : ∀ w ∈ wA, w.before args s = true) (hc : Cond.code y bytes maxL ret ∈ wA) (hini : Cond.initialized y.cls ∈ wA) (hl : Cond.methodLink own index y ∈ wA) (hst : Cond.static y ∈ wA) (hd : hdOK y n) (hR : rm.frames + 1 ≤ R.frames ∧ 8 + (maxL + 11) + rm.locals ≤ R.locals) : CallB R s args own index y bytes maxL ret (wM y bytes maxL ret) rm rm.cells rm.slots n ∧ (Cond.static y).before args s = true :=
  ⟨cA_B hts hc hini hl hd hR, hts _ hst⟩
theorem cA_N (hts : ∀ w ∈ wA, w.before args s = true) (hc : Cond.code y bytes maxL ret ∈ wA) (hini : Cond.initialized y.cls ∈ wA) (hl : va_Nw (.methodLinkNest own index y host) s) (hd : hdOK y n) (hR : rm.frames + 1 ≤ R.frames ∧ 8 + (maxL + 11) + rm.locals ≤ R.locals) : va_CN R s args own index y host bytes maxL ret (wM y bytes maxL ret) rm rm.cells rm.slots n :=
  va_cnB n hts (gA_in hc) rfl rfl rfl hl (hts _ hini) hd hR
theorem pr_S (hX : CX G s) (hP : va_P G.1 vwCl wc H) (hD : va_D A wc) : PreS s H (pC G as wc H.size) as := ⟨pC_blind, fun U hU hW => ⟨rfl, by rw [hU], by rw [hU]; exact hP, hX.warm hW, hD.weaken (fun _ _ _ _ => trivial)⟩⟩
theorem pr_V {q : vw_C} {fs : List Value} (hX : CX G s) (hP : va_P G.1 vwCl wc H) (hD : va_D A wc) (hc : vwCl[ci]? = some q) (he : wc[0]? = some (b, .inr (ci, fs))) : PreV s H q.1 b (pC G (.ref b :: as) wc H.size) as := ⟨pC_blind, va_recv hX.1 hP hc he, fun U hU hW => ⟨rfl, by rw [hU], by rw [hU]; exact hP, hX.warm hW, hD.weaken (fun _ _ _ _ => trivial)⟩⟩
/-- calls: of an instance's method -/
theorem ca_Vi {post : Int32 → S → Prop} {q : vw_C} {fs : List Value} (F : CallFix p m c cc nL s args wA own) (hX : CX G s) (hM : Mi l y bytes maxL ret rm G (.ref b :: as) wc post w') (cw : CallW R s args own q.1 index y bytes maxL ret (wM y bytes maxL ret) rm rm.cells rm.slots n) (hc : vwCl[ci]? = some q) (he : wc[0]? = some (b, .inr (ci, fs))) (hn : as.length = n) (hsz : ls.size = nL) (hst : st0 = as.reverse ++ .ref b :: rest) (hW : (rest.map fun v => v.category).sum ≤ 8) (hdg : decode cc pc = .ok (.invokevirtual index, 3)) (hf : cells + rm.cells ≤ R.cells ∧ slots + rm.slots ≤ R.slots)
    (hP : va_P G.1 vwCl ws H) (hD : va_D A ws) (hS : va_S A s.heap H locs) (hA : ∀ q, s.heap.size ≤ q → A q) (pm : ws.Perm (wc ++ wr))
    (kk : ∀ (r : Int32) (u : S) (H1 : Heap) (locs1 : List Loc), post r u → va_P G.1 vwCl (w' u ++ wr) H1 → va_D A (w' u ++ wr) → va_S A s.heap H1 locs1 → W p l e R s m args below meth c H1 locs1 (cells + rm.cells) (slots + rm.slots) Q (F0 m (pc + 3) ls (.int r :: rest))) : W p l e R s m args below meth c H locs cells slots Q (F0 m pc ls st0) := by
  have hP' := wp_pm pm hP
  have hD' := wd_pm pm hD
  exact fr_i (va_runV (As := as) (rest := rest) F (hM H.size) cw (pr_V hX (wp_l hP') (wd_l hD') hc he) rfl hn hsz hst (lv_room hW) hdg hf) hP' hD' hS hA kk
theorem ca_Vv {post : S → Prop} {q : vw_C} {fs : List Value} (F : CallFix p m c cc nL s args wA own) (hX : CX G s) (hM : Mv l y bytes maxL ret rm G (.ref b :: as) wc post w') (cw : CallW R s args own q.1 index y bytes maxL ret (wM y bytes maxL ret) rm rm.cells rm.slots n) (hc : vwCl[ci]? = some q) (he : wc[0]? = some (b, .inr (ci, fs))) (hn : as.length = n) (hsz : ls.size = nL) (hst : st0 = as.reverse ++ .ref b :: rest) (hW : (rest.map fun v => v.category).sum ≤ 8) (hdg : decode cc pc = .ok (.invokevirtual index, 3)) (hf : cells + rm.cells ≤ R.cells ∧ slots + rm.slots ≤ R.slots)
    (hP : va_P G.1 vwCl ws H) (hD : va_D A ws) (hS : va_S A s.heap H locs) (hA : ∀ q, s.heap.size ≤ q → A q) (pm : ws.Perm (wc ++ wr))
    (kk : ∀ (u : S) (H1 : Heap) (locs1 : List Loc), post u → va_P G.1 vwCl (w' u ++ wr) H1 → va_D A (w' u ++ wr) → va_S A s.heap H1 locs1 → W p l e R s m args below meth c H1 locs1 (cells + rm.cells) (slots + rm.slots) Q (F0 m (pc + 3) ls rest)) : W p l e R s m args below meth c H locs cells slots Q (F0 m pc ls st0) := by
  have hP' := wp_pm pm hP
  have hD' := wd_pm pm hD
  exact fr_v (va_runV (As := as) (rest := rest) F (hM H.size) cw (pr_V hX (wp_l hP') (wd_l hD') hc he) rfl hn hsz hst (lv_room hW) hdg hf) hP' hD' hS hA kk
/-- of a static method -/
theorem ca_Si {post : Int32 → S → Prop} (F : CallFix p m c cc nL s args wA own) (hX : CX G s) (hM : Mi l y bytes maxL ret rm G as wc post w') (cw : CallB R s args own index y bytes maxL ret (wM y bytes maxL ret) rm rm.cells rm.slots n ∧ (Cond.static y).before args s = true) (hn : as.length = n) (hsz : ls.size = nL) (hst : st0 = as.reverse ++ rest) (hW : (rest.map fun v => v.category).sum ≤ 8) (hdg : decode cc pc = .ok (.invokestatic index, 3)) (hf : cells + rm.cells ≤ R.cells ∧ slots + rm.slots ≤ R.slots)
    (hP : va_P G.1 vwCl ws H) (hD : va_D A ws) (hS : va_S A s.heap H locs) (hA : ∀ q, s.heap.size ≤ q → A q) (pm : ws.Perm (wc ++ wr))
    (kk : ∀ (r : Int32) (u : S) (H1 : Heap) (locs1 : List Loc), post r u → va_P G.1 vwCl (w' u ++ wr) H1 → va_D A (w' u ++ wr) → va_S A s.heap H1 locs1 → W p l e R s m args below meth c H1 locs1 (cells + rm.cells) (slots + rm.slots) Q (F0 m (pc + 3) ls (.int r :: rest))) : W p l e R s m args below meth c H locs cells slots Q (F0 m pc ls st0) := by
  have hP' := wp_pm pm hP
  have hD' := wd_pm pm hD
  exact fr_i (va_runS (As := as) (rest := rest) F (hM H.size) cw (pr_S hX (wp_l hP') (wd_l hD')) rfl hn hsz hst (lv_room hW) hdg hf) hP' hD' hS hA kk
theorem ca_Sv {post : S → Prop} (F : CallFix p m c cc nL s args wA own) (hX : CX G s) (hM : Mv l y bytes maxL ret rm G as wc post w') (cw : CallB R s args own index y bytes maxL ret (wM y bytes maxL ret) rm rm.cells rm.slots n ∧ (Cond.static y).before args s = true) (hn : as.length = n) (hsz : ls.size = nL) (hst : st0 = as.reverse ++ rest) (hW : (rest.map fun v => v.category).sum ≤ 8) (hdg : decode cc pc = .ok (.invokestatic index, 3)) (hf : cells + rm.cells ≤ R.cells ∧ slots + rm.slots ≤ R.slots)
    (hP : va_P G.1 vwCl ws H) (hD : va_D A ws) (hS : va_S A s.heap H locs) (hA : ∀ q, s.heap.size ≤ q → A q) (pm : ws.Perm (wc ++ wr))
    (kk : ∀ (u : S) (H1 : Heap) (locs1 : List Loc), post u → va_P G.1 vwCl (w' u ++ wr) H1 → va_D A (w' u ++ wr) → va_S A s.heap H1 locs1 → W p l e R s m args below meth c H1 locs1 (cells + rm.cells) (slots + rm.slots) Q (F0 m (pc + 3) ls rest)) : W p l e R s m args below meth c H locs cells slots Q (F0 m pc ls st0) := by
  have hP' := wp_pm pm hP
  have hD' := wd_pm pm hD
  exact fr_v (va_runS (As := as) (rest := rest) F (hM H.size) cw (pr_S hX (wp_l hP') (wd_l hD')) rfl hn hsz hst (lv_room hW) hdg hf) hP' hD' hS hA kk
/-- of a nest mate's static method -/
theorem ca_Ni {post : Int32 → S → Prop} (F : CallFix p m c cc nL s args wA own) (hX : CX G s) (hM : Mi l y bytes maxL ret rm G as wc post w') (cw : va_CN R s args own index y host bytes maxL ret (wM y bytes maxL ret) rm rm.cells rm.slots n ∧ (Cond.static y).before args s = true ∧ True) (hn : as.length = n) (hsz : ls.size = nL) (hst : st0 = as.reverse ++ rest) (hW : (rest.map fun v => v.category).sum ≤ 8) (hdg : decode cc pc = .ok (.invokestatic index, 3)) (hf : cells + rm.cells ≤ R.cells ∧ slots + rm.slots ≤ R.slots)
    (hP : va_P G.1 vwCl ws H) (hD : va_D A ws) (hS : va_S A s.heap H locs) (hA : ∀ q, s.heap.size ≤ q → A q) (pm : ws.Perm (wc ++ wr))
    (kk : ∀ (r : Int32) (u : S) (H1 : Heap) (locs1 : List Loc), post r u → va_P G.1 vwCl (w' u ++ wr) H1 → va_D A (w' u ++ wr) → va_S A s.heap H1 locs1 → W p l e R s m args below meth c H1 locs1 (cells + rm.cells) (slots + rm.slots) Q (F0 m (pc + 3) ls (.int r :: rest))) : W p l e R s m args below meth c H locs cells slots Q (F0 m pc ls st0) := by
  have hP' := wp_pm pm hP
  have hD' := wd_pm pm hD
  exact fr_i (va_runSN (As := as) (rest := rest) F (hM H.size) cw (pr_S hX (wp_l hP') (wd_l hD')) rfl hn hsz hst (lv_room hW) hdg hf) hP' hD' hS hA kk
/-- of a constructor; a nest mate's -/
theorem ca_Iv {post : S → Prop} (F : CallFix p m c cc nL s args wA own) (hX : CX G s) (hM : Mv l y bytes maxL none rm G (.ref b :: as) wc post w') (cw : CallB R s args own index y bytes maxL none (wM y bytes maxL none) rm rm.cells rm.slots n ∧ y.name = "<init>" ∧ (Cond.instanceMethod y).before args s = true) (hn : as.length = n) (hsz : ls.size = nL) (hst : st0 = as.reverse ++ .ref b :: rest) (hW : (rest.map fun v => v.category).sum ≤ 8) (hdg : decode cc pc = .ok (.invokespecial index, 3)) (hf : cells + rm.cells ≤ R.cells ∧ slots + rm.slots ≤ R.slots)
    (hP : va_P G.1 vwCl ws H) (hD : va_D A ws) (hS : va_S A s.heap H locs) (hA : ∀ q, s.heap.size ≤ q → A q) (pm : ws.Perm (wc ++ wr))
    (kk : ∀ (u : S) (H1 : Heap) (locs1 : List Loc), post u → va_P G.1 vwCl (w' u ++ wr) H1 → va_D A (w' u ++ wr) → va_S A s.heap H1 locs1 → W p l e R s m args below meth c H1 locs1 (cells + rm.cells) (slots + rm.slots) Q (F0 m (pc + 3) ls rest)) : W p l e R s m args below meth c H locs cells slots Q (F0 m pc ls st0) := by
  have hP' := wp_pm pm hP
  have hD' := wd_pm pm hD
  exact fr_v (va_runI (As := as) (rest := rest) F (hM H.size) cw (pr_S hX (wp_l hP') (wd_l hD')) rfl hn hsz hst (lv_room hW) hdg hf) hP' hD' hS hA kk
theorem ca_INv {post : S → Prop} (F : CallFix p m c cc nL s args wA own) (hX : CX G s) (hM : Mv l y bytes maxL none rm G (.ref b :: as) wc post w') (cw : va_CN R s args own index y host bytes maxL none (wM y bytes maxL none) rm rm.cells rm.slots n ∧ y.name = "<init>" ∧ (Cond.instanceMethod y).before args s = true) (hn : as.length = n) (hsz : ls.size = nL) (hst : st0 = as.reverse ++ .ref b :: rest) (hW : (rest.map fun v => v.category).sum ≤ 8) (hdg : decode cc pc = .ok (.invokespecial index, 3)) (hf : cells + rm.cells ≤ R.cells ∧ slots + rm.slots ≤ R.slots)
    (hP : va_P G.1 vwCl ws H) (hD : va_D A ws) (hS : va_S A s.heap H locs) (hA : ∀ q, s.heap.size ≤ q → A q) (pm : ws.Perm (wc ++ wr))
    (kk : ∀ (u : S) (H1 : Heap) (locs1 : List Loc), post u → va_P G.1 vwCl (w' u ++ wr) H1 → va_D A (w' u ++ wr) → va_S A s.heap H1 locs1 → W p l e R s m args below meth c H1 locs1 (cells + rm.cells) (slots + rm.slots) Q (F0 m (pc + 3) ls rest)) : W p l e R s m args below meth c H locs cells slots Q (F0 m pc ls st0) := by
  have hP' := wp_pm pm hP
  have hD' := wd_pm pm hD
  exact fr_v (va_runIN (As := as) (rest := rest) F (hM H.size) cw (pr_S hX (wp_l hP') (wd_l hD')) rfl hn hsz hst (lv_room hW) hdg hf) hP' hD' hS hA kk
end QC
end
section
/-! the worlds: what the cells of each kind of thing hold -/
def tkw (G : GG) (ad : Nat → Nat) (a : Nat → Nat) (r : Nat → Nat → Nat) : va_W := [(ad 0, .inr (3, [.int (nI (a 0)), .int (nI (a 1)), .int (nI (a 2)), .int (nI (a 3)), .ref (ad 1), .ref (ad 2), .ref (ad 3), .int (nI (a 7)), .int (nI (a 8)), .int (nI (a 9)), .int (nI (a 10)), .ref (ad 4)])), (ad 1, .inl (G.2 0, 12, .inl (fun j => nI (r 0 j)))), (ad 2, .inl (G.2 0, 12, .inl (fun j => nI (r 1 j)))), (ad 3, .inl (G.2 0, 12, .inl (fun j => nI (r 2 j)))), (ad 4, .inl (G.2 0, 7, .inl (fun j => nI (r 3 j))))]
def wyw (G : GG) (ad : Nat → Nat) (wt : Nat → Nat) (us : Nat) : va_W := [(ad 0, .inr (5, [.ref (ad 1), .int (nI us)])), (ad 1, .inl (G.2 0, 7, .inl (fun j => nI (wt j))))]
def bow (b w0 : Nat) : va_W := [(b, .inr (0, [.ref w0]))]
def txw (G : GG) (ad : Nat → Nat) (z : Nat → Nat) (tl : Nat → Nat) : va_W := [(ad 0, .inr (4, [.ref (ad 1), .int (nI (z 1)), .int (nI (z 2)), .int (nI (z 3)), .int (nI (z 4)), .int (nI (z 5)), .int (nI (z 6))])), (ad 1, .inl (G.2 0, 120, .inl (fun j => nI (tl j))))]
def sgw (G : GG) (ad : Nat → Nat) (wh : Nat → Nat) (nu : Nat → Int32) (sz : Nat) : va_W := [(ad 0, .inr (2, [.ref (ad 1), .ref (ad 2), .int (nI sz)])), (ad 1, .inl (G.2 0, 6, .inl (fun j => nI (wh j)))), (ad 2, .inl (G.2 0, 6, .inl nu))]
def pao (G : GG) (ad : Nat → Nat) (sz nx : Nat) (kf : Nat → Option Nat) : va_W := [(ad 0, .inr (1, [.ref (ad 1), .int (nI sz), .int (nI nx)])), (ad 1, .inl (G.2 3, 6, .inr (.inr (.inr (.inr kf)))))]
def mdw (G : GG) (ad : Nat → Nat) (z : Nat → Nat) (fl : Int32) (s : Nat → Nat) (d : Nat → Int32) (pa ke : Nat → Nat) (ik fa te : Nat → Int32) (aw : Nat → Nat) : va_W := [(ad 0, .inr (7, [.int (nI 0), .ref (ad 1), .ref (ad 2), .ref (ad 3), .int (nI (z 4)), .ref (ad 4), .ref (ad 5), .ref (ad 6), .int (nI (z 8)), .ref (ad 7), .int (nI (z 10)), .int (nI (z 11)), .int (nI (z 12)), .int (nI (z 13)), .int fl, .ref (ad 8), .int (nI (z 16))])), (ad 1, .inl (G.2 0, 52, .inl (fun j => nI (s j)))), (ad 2, .inl (G.2 0, 52, .inl d)), (ad 3, .inl (G.2 0, 312, .inl (fun j => nI (pa j)))), (ad 4, .inl (G.2 0, 104, .inl (fun j => nI (ke j)))), (ad 5, .inl (G.2 1, 2, .inl ik)), (ad 6, .inl (G.2 0, 12, .inl fa)), (ad 7, .inl (G.2 2, 120, .inl te)), (ad 8, .inl (G.2 0, 7, .inl (fun j => nI (aw j))))]
section QW
variable {p : Program} {l : Launch} {e : Env} {R : Room} {s : State} {m : MethodId} {below : List Frame} {meth : Method} {c : Code} {H : Heap} {locs : List Loc}
abbrev WI {S : Type} (p : Program) (l : Launch) (e : Env) (R : Room) (s : State) (m : MethodId) (as : List Value) (below : List Frame) (meth : Method) (c : Code) (H : Heap) (locs : List Loc) (G : GG) (A : Nat → Prop) (post : Int32 → S → Prop) (w' : S → va_W) (g : JFrame) : Prop := W p l e R s m as.toArray below meth c H locs 0 0 (MQ below (va_Qi post (bW G A w') A) as.toArray s 0 0 A) g
abbrev WV {S : Type} (p : Program) (l : Launch) (e : Env) (R : Room) (s : State) (m : MethodId) (as : List Value) (below : List Frame) (meth : Method) (c : Code) (H : Heap) (locs : List Loc) (G : GG) (A : Nat → Prop) (post : S → Prop) (w' : S → va_W) (g : JFrame) : Prop := W p l e R s m as.toArray below meth c H locs 0 0 (MQ below (va_Qv post (bW G A w') A) as.toArray s 0 0 A) g
end QW
theorem qn_inc (t : Nat) : nI t + Int32.ofInt 1 = nI (t + 1) := nI_1 t
theorem pm_nil {α : Type} (w : List α) : w.Perm (w ++ []) := List.Perm.of_eq (List.append_nil w).symm
theorem pm_sw {α : Type} (a b r : List α) : (a ++ (b ++ r)).Perm (b ++ (a ++ r)) := by
  rw [← List.append_assoc, ← List.append_assoc]
  exact List.Perm.append_right r List.perm_append_comm
/-! copies; what lies behind an array's end doesn't matter -/
theorem ce_ext {cA : ClassId} {n : Nat} {f g : Nat → Int32} (h : ∀ j, j < n → f j = g j) : vp_cell cA (n, .inl f) = vp_cell cA (n, .inl g) := by
  show arrV cA n (fun j => .int (f j)) = arrV cA n (fun j => .int (g j))
  unfold arrV
  congr 1
  apply Array.ext
  · simp
  · intro i h1 h2
    simp only [Array.size_ofFn] at h1
    simp [h i h1]
theorem wp_set {D : va_G} {cl : List vw_C} {ws : va_W} {H : Heap} {q0 a n : Nat} {cA : ClassId} {f g : Nat → Int32} (h : ∀ j, j < n → f j = g j) (hP : va_P D cl (ws.set q0 (a, .inl (cA, n, .inl f))) H) : va_P D cl (ws.set q0 (a, .inl (cA, n, .inl g))) H := by
  intro k q hk
  by_cases e : q0 = k
  · subst e
    by_cases hl : q0 < ws.length
    · rw [List.getElem?_set_self hl] at hk
      cases hk
      have := hP q0 (a, .inl (cA, n, .inl f)) (List.getElem?_set_self hl)
      show H[a]? = some (vp_cell cA (n, .inl g))
      rw [← ce_ext h]
      exact this
    · rw [List.getElem?_eq_none (by rw [List.length_set]; omega)] at hk
      cases hk
  · rw [List.getElem?_set_ne e] at hk
    exact hP k q (by rw [List.getElem?_set_ne e]; exact hk)
theorem wd_set {A : Nat → Prop} {ws : va_W} {q0 a : Nat} {x y : va_E} (hD : va_D A (ws.set q0 (a, x))) : va_D A (ws.set q0 (a, y)) := by
  by_cases hl : q0 < ws.length
  · have := hD.set (p := q0) (a := a) (e0 := x) (e := y) (List.getElem?_set_self hl)
    rwa [List.set_set] at this
  · have e : ∀ z, ws.set q0 z = ws := fun z => List.set_eq_of_length_le (by omega)
    rw [e] at hD ⊢
    exact hD
section QY
variable {p : Program} {l : Launch} {e : Env} {R : Room} {s : State} {m : MethodId} {args : Array Value} {below : List Frame} {meth : Method} {c : Code} {H : Heap} {locs : List Loc} {cells slots : Nat} {Q : State → Prop}
variable {cc : ByteArray} {pc nL : Nat} {ls : Array Slot} {rest : List Value} {G : GG} {A : Nat → Prop} {ws : va_W} {own : String}
theorem nv_cpy (F : CallFix p m c cc nL s args wA own) (hsz : ls.size = nL) (hX : CX G s) {index : Nat} (hl : Cond.methodLink own index arraycopyName ∈ wA) (hnat : Cond.native arraycopyName ∈ wA) (hstat : Cond.static arraycopyName ∈ wA) (hini : Cond.initialized "java/lang/System" ∈ wA) (hP : va_P G.1 vwCl ws H) (hD : va_D A ws) (hS : va_S A s.heap H locs) (q0 q1 : Nat) {a0 a n0 n1 : Nat} {f g : Nat → Nat} (ha0 : ws[q0]? = some (a0, .inl (G.2 0, n0, .inl (fun j => nI (f j))))) (ha1 : ws[q1]? = some (a, .inl (G.2 0, n1, .inl (fun j => nI (g j)))))
    {sp dp n : Nat} (h4 : sp + n ≤ n0) (h5 : dp + n ≤ n1) (hn0 : n0 < 2 ^ 31) (hn1 : n1 < 2 ^ 31) (hframes : 1 ≤ R.frames) (hlocals : (rest.map fun v => v.category).sum + 18 ≤ R.locals) (hdg : decode cc pc = .ok (.invokestatic index, 3))
    (kk : ∀ (H1 : Heap) (locs1 : List Loc), va_P G.1 vwCl (ws.set q1 (a, .inl (G.2 0, n1, .inl (fun j => nI (va_cpy f g sp dp n j))))) H1 → va_D A (ws.set q1 (a, .inl (G.2 0, n1, .inl (fun j => nI (va_cpy f g sp dp n j))))) → va_S A s.heap H1 locs1 → W p l e R s m args below meth c H1 locs1 cells slots Q (F0 m (pc + 3) ls rest)) : W p l e R s m args below meth c H locs cells slots Q (F0 m pc ls (.int (nI n) :: .int (nI dp) :: .ref a :: .int (nI sp) :: .ref a0 :: rest)) := by
  obtain ⟨hx, hb, hml, hown, hts⟩ := F
  have e1 : (nI sp).toNatClampNeg = sp := nI_clamp (by omega)
  have e2 : (nI dp).toNatClampNeg = dp := nI_clamp (by omega)
  have e3 : (nI n).toNatClampNeg = n := nI_clamp (by omega)
  refine va_copyi (ty := .int) hx hb (hml.trans hsz.symm) hown (hts _ hl) (hts _ hnat) (hts _ hstat) (hts _ hini) hX.1 hP hD hS q0 q1 0 0 ha0 ha1 rfl rfl rfl (nI_pos (by omega)) (nI_pos (by omega)) (nI_pos (by omega)) (by rw [e1, e3]; exact h4) (by rw [e2, e3]; exact h5) (fun _ _ => rfl) hframes hlocals hdg ?_
  rw [e1, e2, e3, qn_cpy]
  exact kk
/-- a copy of all -/
theorem nv_cpyF (F : CallFix p m c cc nL s args wA own) (hsz : ls.size = nL) (hX : CX G s) {index : Nat} (hl : Cond.methodLink own index arraycopyName ∈ wA) (hnat : Cond.native arraycopyName ∈ wA) (hstat : Cond.static arraycopyName ∈ wA) (hini : Cond.initialized "java/lang/System" ∈ wA) (hP : va_P G.1 vwCl ws H) (hD : va_D A ws) (hS : va_S A s.heap H locs) (q0 q1 : Nat) {a0 a n : Nat} {f g : Nat → Nat} (ha0 : ws[q0]? = some (a0, .inl (G.2 0, n, .inl (fun j => nI (f j))))) (ha1 : ws[q1]? = some (a, .inl (G.2 0, n, .inl (fun j => nI (g j)))))
    (hn : n < 2 ^ 31) (hframes : 1 ≤ R.frames) (hlocals : (rest.map fun v => v.category).sum + 18 ≤ R.locals) (hdg : decode cc pc = .ok (.invokestatic index, 3))
    (kk : ∀ (H1 : Heap) (locs1 : List Loc), va_P G.1 vwCl (ws.set q1 (a, .inl (G.2 0, n, .inl (fun j => nI (f j))))) H1 → va_D A (ws.set q1 (a, .inl (G.2 0, n, .inl (fun j => nI (f j))))) → va_S A s.heap H1 locs1 → W p l e R s m args below meth c H1 locs1 cells slots Q (F0 m (pc + 3) ls rest)) : W p l e R s m args below meth c H locs cells slots Q (F0 m pc ls (.int (nI n) :: .int (nI 0) :: .ref a :: .int (nI 0) :: .ref a0 :: rest)) := by
  refine nv_cpy F hsz hX hl hnat hstat hini hP hD hS q0 q1 ha0 ha1 (by omega) (by omega) hn hn hframes hlocals hdg ?_
  intro H1 locs1 g1 g2 g3
  refine kk H1 locs1 (wp_set ?_ g1) (wd_set g2) g3
  intro j hj
  simp [va_cpy, hj]
end QY
end
section
/-! the pure words -/
theorem qb_t {a k : Nat} (h : a / 2 ^ k &&& 1 ≠ 0) : a.testBit k = true := by
  rw [qn_bit] at h
  cases h1 : a.testBit k
  · rw [h1] at h; exact absurd rfl h
  · rfl
theorem qb_f {a k : Nat} (h : a / 2 ^ k &&& 1 = 0) : a.testBit k = false := by
  rw [qn_bit] at h
  cases h1 : a.testBit k
  · rfl
  · rw [h1] at h; exact absurd h (by decide)
theorem qb_one (a : Nat) : a &&& 1 < 2 ^ 31 := Nat.lt_of_le_of_lt Nat.and_le_right (by decide)
theorem qn_min {x y : Nat} (h1 : x < 2 ^ 31) (h2 : y < 2 ^ 31) : (if nI y < nI x then nI y else nI x) = nI (min x y) := by
  by_cases h : y < x
  · rw [if_pos (nI_lt h h1), Nat.min_eq_right (Nat.le_of_lt h)]
  · rw [if_neg (nI_nlt (by omega) h2), Nat.min_eq_left (by omega)]
theorem bI_nar (b : Bool) : narrow .boolean (.int (bI b)) = .int (bI b) := by cases b <;> decide
theorem or_lt {a b n : Nat} (h1 : a < 2 ^ n) (h2 : b < 2 ^ n) : a ||| b < 2 ^ n := Nat.or_lt_two_pow h1 h2
theorem pw_lt {a n : Nat} (h : a < n) : 2 ^ a < 2 ^ n := Nat.pow_lt_pow_right (by decide) h
/-- the numbers of a talk, in their ranges -/
def TB (a : Nat → Nat) (r : Nat → Nat → Nat) : Prop := 2 ≤ a 0 ∧ a 0 ≤ 7 ∧ a 1 < a 0 ∧ a 2 ≤ 9 ∧ a 3 ≤ 12 ∧ (∀ j, r 0 j < 7) ∧ (∀ j, r 1 j < 7) ∧ (∀ j, r 2 j ≤ 9) ∧ a 7 < 128 ∧ a 8 < 4096 ∧ a 9 < 4096 ∧ a 10 ≤ 7 ∧ (∀ j, r 3 j < 7)
def edg (f g : Nat → Nat) (k : Nat) : Nat := 2 ^ f k ||| 2 ^ g k
theorem edg_lt {f g : Nat → Nat} (hf : ∀ j, f j < 7) (hg : ∀ j, g j < 7) (k : Nat) : edg f g k < 128 := or_lt (n := 7) (pw_lt (hf k)) (pw_lt (hg k))
def lkA (f g : Nat → Nat) (v : Nat) : Nat → Nat
  | 0 => 0
  | k + 1 => if (edg f g k).testBit v then lkA f g v k ||| 2 ^ k else lkA f g v k
theorem lkA_lt (f g : Nat → Nat) (v : Nat) : ∀ k, lkA f g v k < 2 ^ k
  | 0 => by simp [lkA]
  | k + 1 => by
    have h := lkA_lt f g v k
    have h2 : 2 ^ k < 2 ^ (k + 1) := pw_lt (by omega)
    unfold lkA
    split
    · exact or_lt (by omega) h2
    · omega
theorem pw12 {k : Nat} (h : k ≤ 12) : 2 ^ k ≤ 4096 := Nat.pow_le_pow_right (n := 2) (by decide) h
def cst (c : Nat → Nat) (set : Nat) : Nat → Nat
  | 0 => 0
  | k + 1 => if set.testBit k then cst c set k + c k else cst c set k
theorem cst_le {c : Nat → Nat} (hc : ∀ j, c j ≤ 9) (set : Nat) : ∀ k, cst c set k ≤ 9 * k
  | 0 => by simp [cst]
  | k + 1 => by
    have h := cst_le hc set k
    have h2 := hc k
    unfold cst
    split <;> omega
def nof (f g : Nat → Nat) (src set : Nat) : Nat → Nat
  | 0 => 2 ^ src
  | k + 1 => if set.testBit k then nof f g src set k ||| edg f g k else nof f g src set k
theorem nof_lt {f g : Nat → Nat} (hf : ∀ j, f j < 7) (hg : ∀ j, g j < 7) {src : Nat} (hs : src < 7) (set : Nat) : ∀ k, nof f g src set k < 128
  | 0 => pw_lt (n := 7) hs
  | k + 1 => by
    have h := nof_lt hf hg hs set k
    unfold nof
    split
    · exact or_lt (n := 7) h (edg_lt hf hg k)
    · exact h
/-- one round over the links: who hangs together -/
def hgr (f g : Nat → Nat) (set : Nat) : Nat → Nat → Nat
  | 0, x => x
  | k + 1, x => if set.testBit k = true ∧ hgr f g set k x &&& edg f g k ≠ 0 then hgr f g set k x ||| edg f g k else hgr f g set k x
theorem hgr_lt {f g : Nat → Nat} (hf : ∀ j, f j < 7) (hg : ∀ j, g j < 7) {set x : Nat} (hx : x < 128) : ∀ k, hgr f g set k x < 128
  | 0 => hx
  | k + 1 => by
    have h := hgr_lt hf hg hx (set := set) k
    unfold hgr
    split
    · exact or_lt (n := 7) h (edg_lt hf hg k)
    · exact h
def hgn (f g : Nat → Nat) (set L : Nat) : Nat → Nat → Nat
  | 0, x => x
  | n + 1, x => hgr f g set L (hgn f g set L n x)
theorem hgn_lt {f g : Nat → Nat} (hf : ∀ j, f j < 7) (hg : ∀ j, g j < 7) {set L x : Nat} (hx : x < 128) : ∀ n, hgn f g set L n x < 128
  | 0 => hx
  | n + 1 => hgr_lt hf hg (hgn_lt hf hg hx n) L
theorem out_of {x : Int32} {n : Nat} (h : ¬ (0 ≤ x.toInt ∧ x.toInt < n)) (h1 : ¬ x < 0) (hn : n < 2 ^ 31) : nI n ≤ x := by
  rw [Int32.le_iff_toInt_le, nI_toInt hn]
  have h2 : 0 ≤ x.toInt := by
    have := Int32.not_lt.mp h1
    simpa using Int32.le_iff_toInt_le.mp this
  omega
/-- the place of v among the first k -/
def mkF (m : Nat → Nat) (v : Nat) : Nat → Option Nat
  | 0 => none
  | k + 1 => match mkF m v k with
    | some j => some j
    | none => if m k = v then some k else none
theorem mkF_some {m : Nat → Nat} {v j : Nat} : ∀ {k n : Nat}, k ≤ n → mkF m v k = some j → mkF m v n = some j := by
  intro k n
  induction n with
  | zero => intro h h2; have : k = 0 := by omega
            rw [this] at h2; exact h2
  | succ n ih =>
    intro h h2
    by_cases e : k = n + 1
    · rw [← e]; exact h2
    · have := ih (by omega) h2
      rw [mkF, this]
theorem mkF_lt {m : Nat → Nat} {v : Nat} : ∀ {k j : Nat}, mkF m v k = some j → j < k ∧ m j = v := by
  intro k
  induction k with
  | zero => intro j h; cases h
  | succ k ih =>
    intro j h
    rw [mkF] at h
    cases h1 : mkF m v k with
    | some i =>
      rw [h1] at h
      cases h
      have := ih h1
      exact ⟨by omega, this.2⟩
    | none =>
      rw [h1] at h
      by_cases e : m k = v
      · rw [if_pos e] at h; cases h; exact ⟨by omega, e⟩
      · rw [if_neg e] at h; cases h
/-- one node looked at, in pruning: its links of the tree -/
def prS (f g : Nat → Nat) (served L v t : Nat) (b : Nat → Nat) : Nat := if served.testBit v = false ∧ b (lkA f g v L &&& t) = 1 then nd t (lkA f g v L &&& t) else t
def prR (f g : Nat → Nat) (served L : Nat) (b : Nat → Nat) : Nat → Nat → Nat
  | 0, t => t
  | v + 1, t => prS f g served L v (prR f g served L b v t) b
def prN (f g : Nat → Nat) (served L n : Nat) (b : Nat → Nat) : Nat → Nat → Nat
  | 0, t => t
  | q + 1, t => prR f g served L b n (prN f g served L n b q t)
theorem prS_le (f g : Nat → Nat) (sv L v t : Nat) (b : Nat → Nat) : prS f g sv L v t b ≤ t := by
  unfold prS
  split
  · exact nd_le _ _
  · exact Nat.le_refl _
theorem prR_le (f g : Nat → Nat) (sv L : Nat) (b : Nat → Nat) (t : Nat) : ∀ v, prR f g sv L b v t ≤ t
  | 0 => Nat.le_refl _
  | v + 1 => Nat.le_trans (prS_le _ _ _ _ _ _ _) (prR_le f g sv L b t v)
theorem prN_le (f g : Nat → Nat) (sv L n : Nat) (b : Nat → Nat) (t : Nat) : ∀ q, prN f g sv L n b q t ≤ t
  | 0 => Nat.le_refl _
  | q + 1 => Nat.le_trans (prR_le _ _ _ _ _ _ _) (prN_le f g sv L n b t q)
theorem TB.tr {a : Nat → Nat} {r : Nat → Nat → Nat} {t : Nat} (h : TB a r) (ht : t < 4096) : TB (va_up a 8 t) r := by
  obtain ⟨t0, t1, t2, t3, t4, t5, t6, t7, t8, t9, t10, t11, t12⟩ := h
  exact ⟨t0, t1, t2, t3, t4, t5, t6, t7, t8, ht, t10, t11, t12⟩
end
section
/-! Integer.bitCount, numberOfTrailingZeros; Arrays.fill -/
def us (x : Int32) (k : Int32) : Int32 := (x.toUInt32 >>> (k.toUInt32 &&& Int32.toUInt32 31)).toInt32
def bc1 (x : Int32) : Int32 := x - (us x (nI 1) &&& nI 1431655765)
def bc2 (x : Int32) : Int32 := (x &&& nI 858993459) + (us x (nI 2) &&& nI 858993459)
def bc3 (x : Int32) : Int32 := (x + us x (nI 4)) &&& nI 252645135
def bc4 (x : Int32) : Int32 := x + us x (nI 8)
def bc5 (x : Int32) : Int32 := x + us x (nI 16)
/-- how many of the first k bits are set -/
def bts (n : Nat) : Nat → Nat
  | 0 => 0
  | k + 1 => bts n k + (if n.testBit k then 1 else 0)
theorem bts_le (n : Nat) : ∀ k, bts n k ≤ k
  | 0 => Nat.le_refl _
  | k + 1 => by
    have := bts_le n k
    unfold bts
    split <;> omega
theorem bc_ok0 : ∀ i : Fin 64, ∀ j : Fin 64, bc5 (bc4 (bc3 (bc2 (bc1 (nI (64 * i.val + j.val)))))) &&& nI 63 = nI (bts (64 * i.val + j.val) 12) := by decide +kernel
theorem bc_ok {n : Nat} (h : n < 4096) : bc5 (bc4 (bc3 (bc2 (bc1 (nI n))))) &&& nI 63 = nI (bts n 12) := by
  have := bc_ok0 ⟨n / 64, by omega⟩ ⟨n % 64, by omega⟩
  have e : 64 * (n / 64) + n % 64 = n := by omega
  simp only [e] at this
  exact this

theorem hdJ6_bitCount_0f7a4 : hdOK yJ6_bitCount_0f7a4 1 := by decide +kernel
set_option maxHeartbeats 4000000 in
set_option maxRecDepth 100000 in
theorem mJ6_bitCount_0f7a4 (l : Launch) (G : GG) (n : Nat) (hn : n < 4096) : Mi l yJ6_bitCount_0f7a4 cJ6_bitCount_0f7a4 1 (some .int) (rmN 0 0) G [.int (nI n)] (([] : va_W)) (fun (r9 : Int32) (_ : Unit) => r9 = (nI (bts n 12))) (fun (_ : Unit) => ([] : va_W)) := by
  refine Mi.of (cc := cJ6_bitCount_0f7a4) (nL := 1) (by decide) (Nat.le_of_ble_eq_true rfl) ?_
  intro p e s m below meth c A ls F hr hlocks hnm hX hA hD hP hS hl
  have F : CallFix p m c cJ6_bitCount_0f7a4 1 s [.int (nI n)].toArray wA RJ6 := F
  obtain ⟨hx, hb, hml, hown, hts⟩ := id F
  have hl : lv_has ls 1 [(0, .int (nI n))] := hl
  refine lv_iload_n hx hb dJ6_bitCount_0f7a4_0 rfl (lv_at hl 0 rfl) ?_
  refine lv_iload_n hx hb dJ6_bitCount_0f7a4_1 rfl (lv_at hl 0 rfl) ?_
  refine lv_iconst (v := (nI 1)) hx hb dJ6_bitCount_0f7a4_2 (by decide) ?_
  refine lv_iushr (v := ((nI n).toUInt32 >>> ((nI 1).toUInt32 &&& Int32.toUInt32 31)).toInt32) hx hb dJ6_bitCount_0f7a4_3 rfl ?_
  refine lv_ldcw (v := (nI 1431655765)) hx hb hown (hts _ kw_504) dJ6_bitCount_0f7a4_4 ?_
  refine lv_iand hx hb dJ6_bitCount_0f7a4_7 ?_
  refine lv_isub hx hb dJ6_bitCount_0f7a4_8 ?_
  refine ti (y := (bc1 (nI n))) rfl ?_
  refine lv_istore_n (lv' := [(0, .int (bc1 (nI n)))]) hx hb dJ6_bitCount_0f7a4_9 rfl hl (by decide) rfl (fun ls hl => ?_)
  refine lv_iload_n hx hb dJ6_bitCount_0f7a4_10 rfl (lv_at hl 0 rfl) ?_
  refine lv_ldcw (v := (nI 858993459)) hx hb hown (hts _ kw_505) dJ6_bitCount_0f7a4_11 ?_
  refine lv_iand hx hb dJ6_bitCount_0f7a4_14 ?_
  refine lv_iload_n hx hb dJ6_bitCount_0f7a4_15 rfl (lv_at hl 0 rfl) ?_
  refine lv_iconst (v := (nI 2)) hx hb dJ6_bitCount_0f7a4_16 (by decide) ?_
  refine lv_iushr (v := ((bc1 (nI n)).toUInt32 >>> ((nI 2).toUInt32 &&& Int32.toUInt32 31)).toInt32) hx hb dJ6_bitCount_0f7a4_17 rfl ?_
  refine lv_ldcw (v := (nI 858993459)) hx hb hown (hts _ kw_505) dJ6_bitCount_0f7a4_18 ?_
  refine lv_iand hx hb dJ6_bitCount_0f7a4_21 ?_
  refine lv_iadd hx hb dJ6_bitCount_0f7a4_22 ?_
  refine ti (y := (bc2 (bc1 (nI n)))) rfl ?_
  refine lv_istore_n (lv' := [(0, .int (bc2 (bc1 (nI n))))]) hx hb dJ6_bitCount_0f7a4_23 rfl hl (by decide) rfl (fun ls hl => ?_)
  refine lv_iload_n hx hb dJ6_bitCount_0f7a4_24 rfl (lv_at hl 0 rfl) ?_
  refine lv_iload_n hx hb dJ6_bitCount_0f7a4_25 rfl (lv_at hl 0 rfl) ?_
  refine lv_iconst (v := (nI 4)) hx hb dJ6_bitCount_0f7a4_26 (by decide) ?_
  refine lv_iushr (v := ((bc2 (bc1 (nI n))).toUInt32 >>> ((nI 4).toUInt32 &&& Int32.toUInt32 31)).toInt32) hx hb dJ6_bitCount_0f7a4_27 rfl ?_
  refine lv_iadd hx hb dJ6_bitCount_0f7a4_28 ?_
  refine lv_ldcw (v := (nI 252645135)) hx hb hown (hts _ kw_506) dJ6_bitCount_0f7a4_29 ?_
  refine lv_iand hx hb dJ6_bitCount_0f7a4_32 ?_
  refine ti (y := (bc3 (bc2 (bc1 (nI n))))) rfl ?_
  refine lv_istore_n (lv' := [(0, .int (bc3 (bc2 (bc1 (nI n)))))]) hx hb dJ6_bitCount_0f7a4_33 rfl hl (by decide) rfl (fun ls hl => ?_)
  refine lv_iload_n hx hb dJ6_bitCount_0f7a4_34 rfl (lv_at hl 0 rfl) ?_
  refine lv_iload_n hx hb dJ6_bitCount_0f7a4_35 rfl (lv_at hl 0 rfl) ?_
  refine lv_bipush (v := (nI 8)) hx hb dJ6_bitCount_0f7a4_36 (by decide) ?_
  refine lv_iushr (v := ((bc3 (bc2 (bc1 (nI n)))).toUInt32 >>> ((nI 8).toUInt32 &&& Int32.toUInt32 31)).toInt32) hx hb dJ6_bitCount_0f7a4_38 rfl ?_
  refine lv_iadd hx hb dJ6_bitCount_0f7a4_39 ?_
  refine ti (y := (bc4 (bc3 (bc2 (bc1 (nI n)))))) rfl ?_
  refine lv_istore_n (lv' := [(0, .int (bc4 (bc3 (bc2 (bc1 (nI n))))))]) hx hb dJ6_bitCount_0f7a4_40 rfl hl (by decide) rfl (fun ls hl => ?_)
  refine lv_iload_n hx hb dJ6_bitCount_0f7a4_41 rfl (lv_at hl 0 rfl) ?_
  refine lv_iload_n hx hb dJ6_bitCount_0f7a4_42 rfl (lv_at hl 0 rfl) ?_
  refine lv_bipush (v := (nI 16)) hx hb dJ6_bitCount_0f7a4_43 (by decide) ?_
  refine lv_iushr (v := ((bc4 (bc3 (bc2 (bc1 (nI n))))).toUInt32 >>> ((nI 16).toUInt32 &&& Int32.toUInt32 31)).toInt32) hx hb dJ6_bitCount_0f7a4_45 rfl ?_
  refine lv_iadd hx hb dJ6_bitCount_0f7a4_46 ?_
  refine ti (y := (bc5 (bc4 (bc3 (bc2 (bc1 (nI n))))))) rfl ?_
  refine lv_istore_n (lv' := [(0, .int (bc5 (bc4 (bc3 (bc2 (bc1 (nI n)))))))]) hx hb dJ6_bitCount_0f7a4_47 rfl hl (by decide) rfl (fun ls hl => ?_)
  refine lv_iload_n hx hb dJ6_bitCount_0f7a4_48 rfl (lv_at hl 0 rfl) ?_
  refine lv_bipush (v := (nI 63)) hx hb dJ6_bitCount_0f7a4_49 (by decide) ?_
  refine lv_iand hx hb dJ6_bitCount_0f7a4_51 ?_
  exact re_i (v := ((bc5 (bc4 (bc3 (bc2 (bc1 (nI n)))))) &&& (nI 63))) hx hb hr hlocks hS () hP hD (bc_ok hn) dJ6_bitCount_0f7a4_52
end
section
theorem hdX7_has : hdOK yX7_has 2 := by decide +kernel
set_option maxHeartbeats 4000000 in
set_option maxRecDepth 100000 in
theorem mX7_has (l : Launch) (G : GG) (set k : Nat) (hs : set < 2 ^ 31) (hk : k < 32) : Mi l yX7_has cX7_has 2 (some .boolean) (rmN 0 0) G [.int (nI set), .int (nI k)] (([] : va_W)) (fun (r9 : Int32) (_ : Unit) => r9 = (bI (set.testBit k))) (fun (_ : Unit) => ([] : va_W)) := by
  refine Mi.of (cc := cX7_has) (nL := 2) (by decide) (Nat.le_of_ble_eq_true rfl) ?_
  intro p e s m below meth c A ls F hr hlocks hnm hX hA hD hP hS hl
  have F : CallFix p m c cX7_has 2 s [.int (nI set), .int (nI k)].toArray wA RX7 := F
  obtain ⟨hx, hb, hml, hown, hts⟩ := id F
  have hl : lv_has ls 2 [(0, .int (nI set)), (1, .int (nI k))] := hl
  refine lv_iload_n hx hb dX7_has_0 rfl (lv_at hl 0 rfl) ?_
  refine lv_iload_n hx hb dX7_has_1 rfl (lv_at hl 1 rfl) ?_
  refine lv_ishr hx hb dX7_has_2 (ti (y := (nI (set / 2 ^ k))) (qn_shr hs hk) ?_)
  refine lv_iconst (v := (nI 1)) hx hb dX7_has_3 (by decide) ?_
  refine lv_iand hx hb dX7_has_4 (ti (y := (nI ((set / 2 ^ k) &&& 1))) (qn_and _ _) ?_)
  refine nv_zeq (x := (set / 2 ^ k) &&& 1) (tgt := 12) hx hb dX7_has_5 (by decide) (qb_one _) (fun c5 => ?_) (fun c5 => ?_)
  · refine lv_iconst (v := (nI 0)) hx hb dX7_has_12 (by decide) ?_
    exact re_z (v := (nI 0)) hx hb hr hlocks hS () hP hD (by first | (rw [qb_f c5]; rfl) | (rw [qb_t c5]; rfl)) (by decide) dX7_has_13
  · refine lv_iconst (v := (nI 1)) hx hb dX7_has_8 (by decide) ?_
    refine lv_goto (tgt := 13) hx hb dX7_has_9 (by decide) ?_
    exact re_z (v := (nI 1)) hx hb hr hlocks hS () hP hD (by first | (rw [qb_f c5]; rfl) | (rw [qb_t c5]; rfl)) (by decide) dX7_has_13

theorem hdX4_ends : hdOK yX4_ends 1 := by decide +kernel
set_option maxHeartbeats 4000000 in
set_option maxRecDepth 100000 in
theorem mX4_ends (l : Launch) (G : GG) (ad : Nat → Nat) (a : Nat → Nat) (r : Nat → Nat → Nat) (k : Nat) (hT : TB a r) (hk : k < 12) : Mi l yX4_ends cX4_ends 2 (some .int) (rmN 0 0) G [.ref (ad 0), .int (nI k)] (tkw G ad a r) (fun (r9 : Int32) (_ : Unit) => r9 = (nI (edg (r 0) (r 1) k))) (fun (_ : Unit) => tkw G ad a r) := by
  refine Mi.of (cc := cX4_ends) (nL := 2) (by decide) (Nat.le_of_ble_eq_true rfl) ?_
  intro p e s m below meth c A ls F hr hlocks hnm hX hA hD hP hS hl
  have F : CallFix p m c cX4_ends 2 s [.ref (ad 0), .int (nI k)].toArray wA RX4 := F
  obtain ⟨hx, hb, hml, hown, hts⟩ := id F
  have hl : lv_has ls 2 [(0, .ref (ad 0)), (1, .int (nI k))] := hl
  obtain ⟨t0, t1, t2, t3, t4, t5, t6, t7, t8, t9, t10, t11, t12⟩ := id hT
  refine lv_iconst (v := (nI 1)) hx hb dX4_ends_0 (by decide) ?_
  refine lv_aload_n hx hb dX4_ends_1 rfl (lv_at hl 0 rfl) ?_
  refine va_get (D := G.1) (ci := 3) (v := .ref (ad 1)) (C := RX4) (T := TX4) (N := 12) hx hb hts inA4 hown hX.1 hP 0 rfl rfl 4 (by decide) (hts _ kw_82) (fun _ h9 => h9) rfl dX4_ends_2 ?_
  refine lv_iload_n hx hb dX4_ends_5 rfl (lv_at hl 1 rfl) ?_
  refine nv_ald (f := r 0) (k := k) hx hb hX hP 1 rfl (by omega) (by decide) dX4_ends_6 ?_
  refine lv_ishl hx hb dX4_ends_7 (ti (y := (nI (2 ^ ((r 0) k)))) (qn_sh1 (by have := t5 k; omega)) ?_)
  refine lv_iconst (v := (nI 1)) hx hb dX4_ends_8 (by decide) ?_
  refine lv_aload_n hx hb dX4_ends_9 rfl (lv_at hl 0 rfl) ?_
  refine va_get (D := G.1) (ci := 3) (v := .ref (ad 2)) (C := RX4) (T := TX4) (N := 12) hx hb hts inA4 hown hX.1 hP 0 rfl rfl 5 (by decide) (hts _ kw_85) (fun _ h9 => h9) rfl dX4_ends_10 ?_
  refine lv_iload_n hx hb dX4_ends_13 rfl (lv_at hl 1 rfl) ?_
  refine nv_ald (f := r 1) (k := k) hx hb hX hP 2 rfl (by omega) (by decide) dX4_ends_14 ?_
  refine lv_ishl hx hb dX4_ends_15 (ti (y := (nI (2 ^ ((r 1) k)))) (qn_sh1 (by have := t6 k; omega)) ?_)
  refine lv_ior hx hb dX4_ends_16 (ti (y := (nI ((2 ^ ((r 0) k)) ||| (2 ^ ((r 1) k))))) (qn_or _ _) ?_)
  exact re_i (v := (nI ((2 ^ ((r 0) k)) ||| (2 ^ ((r 1) k))))) hx hb hr hlocks hS () hP hD rfl dX4_ends_17

theorem hdX4_hasNode : hdOK yX4_hasNode 1 := by decide +kernel
set_option maxHeartbeats 4000000 in
set_option maxRecDepth 100000 in
theorem mX4_hasNode (l : Launch) (G : GG) (ad : Nat → Nat) (a : Nat → Nat) (r : Nat → Nat → Nat) (k : Nat) (hT : TB a r) (hk : k < a 0) : Mi l yX4_hasNode cX4_hasNode 2 (some .boolean) (rmN 0 0) G [.ref (ad 0), .int (nI k)] (tkw G ad a r) (fun (r9 : Int32) (_ : Unit) => r9 = (bI true)) (fun (_ : Unit) => tkw G ad a r) := by
  refine Mi.of (cc := cX4_hasNode) (nL := 2) (by decide) (Nat.le_of_ble_eq_true rfl) ?_
  intro p e s m below meth c A ls F hr hlocks hnm hX hA hD hP hS hl
  have F : CallFix p m c cX4_hasNode 2 s [.ref (ad 0), .int (nI k)].toArray wA RX4 := F
  obtain ⟨hx, hb, hml, hown, hts⟩ := id F
  have hl : lv_has ls 2 [(0, .ref (ad 0)), (1, .int (nI k))] := hl
  obtain ⟨t0, t1, t2, t3, t4, t5, t6, t7, t8, t9, t10, t11, t12⟩ := id hT
  refine lv_iload_n hx hb dX4_hasNode_0 rfl (lv_at hl 1 rfl) ?_
  refine nv_zlt (x := k) (tgt := 16) hx hb dX4_hasNode_1 (by decide) (by omega) ?_
  refine lv_iload_n hx hb dX4_hasNode_4 rfl (lv_at hl 1 rfl) ?_
  refine lv_aload_n hx hb dX4_hasNode_5 rfl (lv_at hl 0 rfl) ?_
  refine va_get (D := G.1) (ci := 3) (v := .int (nI (a 0))) (C := RX4) (T := TX4) (N := 12) hx hb hts inA4 hown hX.1 hP 0 rfl rfl 0 (by decide) (hts _ kw_62) (fun _ h9 => h9) rfl dX4_hasNode_6 ?_
  refine nv_ge (x := k) (y := a 0) (tgt := 16) hx hb dX4_hasNode_9 (by decide) (by omega) (by omega) (fun c9 => ?_) (fun c9 => ?_)
  · exact absurd c9 (by omega)
  · refine lv_iconst (v := (nI 1)) hx hb dX4_hasNode_12 (by decide) ?_
    refine lv_goto (tgt := 17) hx hb dX4_hasNode_13 (by decide) ?_
    exact re_z (v := (nI 1)) hx hb hr hlocks hS () hP hD rfl (by decide) dX4_hasNode_17

set_option maxHeartbeats 4000000 in
set_option maxRecDepth 100000 in
theorem mX4_hasNode_no (l : Launch) (G : GG) (ad : Nat → Nat) (a : Nat → Nat) (r : Nat → Nat → Nat) (x : Int32) (hT : TB a r) (hk : ¬ (0 ≤ x.toInt ∧ x.toInt < a 0)) : Mi l yX4_hasNode cX4_hasNode 2 (some .boolean) (rmN 0 0) G [.ref (ad 0), .int x] (tkw G ad a r) (fun (r9 : Int32) (_ : Unit) => r9 = (bI false)) (fun (_ : Unit) => tkw G ad a r) := by
  refine Mi.of (cc := cX4_hasNode) (nL := 2) (by decide) (Nat.le_of_ble_eq_true rfl) ?_
  intro p e s m below meth c A ls F hr hlocks hnm hX hA hD hP hS hl
  have F : CallFix p m c cX4_hasNode 2 s [.ref (ad 0), .int x].toArray wA RX4 := F
  obtain ⟨hx, hb, hml, hown, hts⟩ := id F
  have hl : lv_has ls 2 [(0, .ref (ad 0)), (1, .int x)] := hl
  obtain ⟨t0, t1, t2, t3, t4, t5, t6, t7, t8, t9, t10, t11, t12⟩ := id hT
  refine lv_iload_n hx hb dX4_hasNode_0 rfl (lv_at hl 1 rfl) ?_
  refine lv_if_lt (x := x) (tgt := 16) hx hb dX4_hasNode_1 (by decide) (fun c1 => ?_) (fun c1 => ?_)
  · refine lv_iconst (v := (nI 0)) hx hb dX4_hasNode_16 (by decide) ?_
    exact re_z (v := (nI 0)) hx hb hr hlocks hS () hP hD rfl (by decide) dX4_hasNode_17
  · refine lv_iload_n hx hb dX4_hasNode_4 rfl (lv_at hl 1 rfl) ?_
    refine lv_aload_n hx hb dX4_hasNode_5 rfl (lv_at hl 0 rfl) ?_
    refine va_get (D := G.1) (ci := 3) (v := .int (nI (a 0))) (C := RX4) (T := TX4) (N := 12) hx hb hts inA4 hown hX.1 hP 0 rfl rfl 0 (by decide) (hts _ kw_62) (fun _ h9 => h9) rfl dX4_hasNode_6 ?_
    refine lv_icmp_ge (x := x) (y := (nI (a 0))) (tgt := 16) hx hb dX4_hasNode_9 (by decide) (fun c9 => ?_) (fun c9 => ?_)
    · refine lv_iconst (v := (nI 0)) hx hb dX4_hasNode_16 (by decide) ?_
      exact re_z (v := (nI 0)) hx hb hr hlocks hS () hP hD rfl (by decide) dX4_hasNode_17
    · exact absurd (out_of hk c1 (by omega)) c9

theorem hdX4_hasLink : hdOK yX4_hasLink 1 := by decide +kernel
set_option maxHeartbeats 4000000 in
set_option maxRecDepth 100000 in
theorem mX4_hasLink (l : Launch) (G : GG) (ad : Nat → Nat) (a : Nat → Nat) (r : Nat → Nat → Nat) (k : Nat) (hT : TB a r) (hk : k < a 3) : Mi l yX4_hasLink cX4_hasLink 2 (some .boolean) (rmN 0 0) G [.ref (ad 0), .int (nI k)] (tkw G ad a r) (fun (r9 : Int32) (_ : Unit) => r9 = (bI true)) (fun (_ : Unit) => tkw G ad a r) := by
  refine Mi.of (cc := cX4_hasLink) (nL := 2) (by decide) (Nat.le_of_ble_eq_true rfl) ?_
  intro p e s m below meth c A ls F hr hlocks hnm hX hA hD hP hS hl
  have F : CallFix p m c cX4_hasLink 2 s [.ref (ad 0), .int (nI k)].toArray wA RX4 := F
  obtain ⟨hx, hb, hml, hown, hts⟩ := id F
  have hl : lv_has ls 2 [(0, .ref (ad 0)), (1, .int (nI k))] := hl
  obtain ⟨t0, t1, t2, t3, t4, t5, t6, t7, t8, t9, t10, t11, t12⟩ := id hT
  refine lv_iload_n hx hb dX4_hasLink_0 rfl (lv_at hl 1 rfl) ?_
  refine nv_zlt (x := k) (tgt := 16) hx hb dX4_hasLink_1 (by decide) (by omega) ?_
  refine lv_iload_n hx hb dX4_hasLink_4 rfl (lv_at hl 1 rfl) ?_
  refine lv_aload_n hx hb dX4_hasLink_5 rfl (lv_at hl 0 rfl) ?_
  refine va_get (D := G.1) (ci := 3) (v := .int (nI (a 3))) (C := RX4) (T := TX4) (N := 12) hx hb hts inA4 hown hX.1 hP 0 rfl rfl 3 (by decide) (hts _ kw_76) (fun _ h9 => h9) rfl dX4_hasLink_6 ?_
  refine nv_ge (x := k) (y := a 3) (tgt := 16) hx hb dX4_hasLink_9 (by decide) (by omega) (by omega) (fun c9 => ?_) (fun c9 => ?_)
  · exact absurd c9 (by omega)
  · refine lv_iconst (v := (nI 1)) hx hb dX4_hasLink_12 (by decide) ?_
    refine lv_goto (tgt := 17) hx hb dX4_hasLink_13 (by decide) ?_
    exact re_z (v := (nI 1)) hx hb hr hlocks hS () hP hD rfl (by decide) dX4_hasLink_17

set_option maxHeartbeats 4000000 in
set_option maxRecDepth 100000 in
theorem mX4_hasLink_no (l : Launch) (G : GG) (ad : Nat → Nat) (a : Nat → Nat) (r : Nat → Nat → Nat) (x : Int32) (hT : TB a r) (hk : ¬ (0 ≤ x.toInt ∧ x.toInt < a 3)) : Mi l yX4_hasLink cX4_hasLink 2 (some .boolean) (rmN 0 0) G [.ref (ad 0), .int x] (tkw G ad a r) (fun (r9 : Int32) (_ : Unit) => r9 = (bI false)) (fun (_ : Unit) => tkw G ad a r) := by
  refine Mi.of (cc := cX4_hasLink) (nL := 2) (by decide) (Nat.le_of_ble_eq_true rfl) ?_
  intro p e s m below meth c A ls F hr hlocks hnm hX hA hD hP hS hl
  have F : CallFix p m c cX4_hasLink 2 s [.ref (ad 0), .int x].toArray wA RX4 := F
  obtain ⟨hx, hb, hml, hown, hts⟩ := id F
  have hl : lv_has ls 2 [(0, .ref (ad 0)), (1, .int x)] := hl
  obtain ⟨t0, t1, t2, t3, t4, t5, t6, t7, t8, t9, t10, t11, t12⟩ := id hT
  refine lv_iload_n hx hb dX4_hasLink_0 rfl (lv_at hl 1 rfl) ?_
  refine lv_if_lt (x := x) (tgt := 16) hx hb dX4_hasLink_1 (by decide) (fun c1 => ?_) (fun c1 => ?_)
  · refine lv_iconst (v := (nI 0)) hx hb dX4_hasLink_16 (by decide) ?_
    exact re_z (v := (nI 0)) hx hb hr hlocks hS () hP hD rfl (by decide) dX4_hasLink_17
  · refine lv_iload_n hx hb dX4_hasLink_4 rfl (lv_at hl 1 rfl) ?_
    refine lv_aload_n hx hb dX4_hasLink_5 rfl (lv_at hl 0 rfl) ?_
    refine va_get (D := G.1) (ci := 3) (v := .int (nI (a 3))) (C := RX4) (T := TX4) (N := 12) hx hb hts inA4 hown hX.1 hP 0 rfl rfl 3 (by decide) (hts _ kw_76) (fun _ h9 => h9) rfl dX4_hasLink_6 ?_
    refine lv_icmp_ge (x := x) (y := (nI (a 3))) (tgt := 16) hx hb dX4_hasLink_9 (by decide) (fun c9 => ?_) (fun c9 => ?_)
    · refine lv_iconst (v := (nI 0)) hx hb dX4_hasLink_16 (by decide) ?_
      exact re_z (v := (nI 0)) hx hb hr hlocks hS () hP hD rfl (by decide) dX4_hasLink_17
    · exact absurd (out_of hk c1 (by omega)) c9

theorem hdX4_isMember : hdOK yX4_isMember 1 := by decide +kernel
set_option maxHeartbeats 4000000 in
set_option maxRecDepth 100000 in
theorem mX4_isMember (l : Launch) (G : GG) (ad : Nat → Nat) (a : Nat → Nat) (r : Nat → Nat → Nat) (v : Nat) (hT : TB a r) (hv : v < 32) : Mi l yX4_isMember cX4_isMember 2 (some .boolean) (rmN 1 21) G [.ref (ad 0), .int (nI v)] (tkw G ad a r) (fun (r9 : Int32) (_ : Unit) => r9 = (bI ((a 7).testBit v))) (fun (_ : Unit) => tkw G ad a r) := by
  refine Mi.of (cc := cX4_isMember) (nL := 2) (by decide) (Nat.le_of_ble_eq_true rfl) ?_
  intro p e s m below meth c A ls F hr hlocks hnm hX hA hD hP hS hl
  have F : CallFix p m c cX4_isMember 2 s [.ref (ad 0), .int (nI v)].toArray wA RX4 := F
  obtain ⟨hx, hb, hml, hown, hts⟩ := id F
  have hl : lv_has ls 2 [(0, .ref (ad 0)), (1, .int (nI v))] := hl
  obtain ⟨t0, t1, t2, t3, t4, t5, t6, t7, t8, t9, t10, t11, t12⟩ := id hT
  refine lv_aload_n hx hb dX4_isMember_0 rfl (lv_at hl 0 rfl) ?_
  refine va_get (D := G.1) (ci := 3) (v := .int (nI (a 7))) (C := RX4) (T := TX4) (N := 12) hx hb hts inA4 hown hX.1 hP 0 rfl rfl 7 (by decide) (hts _ kw_94) (fun _ h9 => h9) rfl dX4_isMember_1 ?_
  refine lv_iload_n hx hb dX4_isMember_4 rfl (lv_at hl 1 rfl) ?_
  refine ca_Ni (rest := []) (wr := tkw G ad a r) F hX (mX7_has l G (a 7) v (by omega) (by omega)) ⟨cA_N hts kw_357 kw_1 hX.2.2.2.2.2.2.2.2.2.2.1 hdX7_has ⟨Nat.le_of_ble_eq_true rfl, Nat.le_of_ble_eq_true rfl⟩, hts _ kw_356, trivial⟩ rfl hl.1 rfl (Nat.le_of_ble_eq_true rfl) dX4_isMember_5 ⟨Nat.le_of_ble_eq_true rfl, Nat.le_of_ble_eq_true rfl⟩ hP hD hS hA (List.Perm.refl _) (fun r5 u5 H locs hp5 hP hD hS => ?_)
  have hP : va_P G.1 vwCl (tkw G ad a r) H := hP
  have hD : va_D A (tkw G ad a r) := hD
  subst hp5
  exact re_z (v := (bI ((a 7).testBit v))) hx hb hr hlocks hS () hP hD rfl (bI_nar _) dX4_isMember_8

theorem hdX4_linksAt : hdOK yX4_linksAt 1 := by decide +kernel
set_option maxHeartbeats 4000000 in
set_option maxRecDepth 100000 in
theorem mX4_linksAt (l : Launch) (G : GG) (ad : Nat → Nat) (a : Nat → Nat) (r : Nat → Nat → Nat) (v : Nat) (hT : TB a r) (hv : v < 32) : Mi l yX4_linksAt cX4_linksAt 4 (some .int) (rmN 1 21) G [.ref (ad 0), .int (nI v)] (tkw G ad a r) (fun (r9 : Int32) (_ : Unit) => r9 = (nI (lkA (r 0) (r 1) v (a 3)))) (fun (_ : Unit) => tkw G ad a r) := by
  refine Mi.of (cc := cX4_linksAt) (nL := 4) (by decide) (Nat.le_of_ble_eq_true rfl) ?_
  intro p e s m below meth c A ls F hr hlocks hnm hX hA hD hP hS hl
  have F : CallFix p m c cX4_linksAt 4 s [.ref (ad 0), .int (nI v)].toArray wA RX4 := F
  obtain ⟨hx, hb, hml, hown, hts⟩ := id F
  have hl : lv_has ls 4 [(0, .ref (ad 0)), (1, .int (nI v))] := hl
  obtain ⟨t0, t1, t2, t3, t4, t5, t6, t7, t8, t9, t10, t11, t12⟩ := id hT
  refine lv_iconst (v := (nI 0)) hx hb dX4_linksAt_0 (by decide) ?_
  refine lv_istore_n (lv' := [(2, .int (nI 0)), (0, .ref (ad 0)), (1, .int (nI v))]) hx hb dX4_linksAt_1 rfl hl (by decide) rfl (fun ls hl => ?_)
  refine lv_iconst (v := (nI 0)) hx hb dX4_linksAt_2 (by decide) ?_
  refine lv_istore_n (lv' := [(3, .int (nI 0)), (2, .int (nI 0)), (0, .ref (ad 0)), (1, .int (nI v))]) hx hb dX4_linksAt_3 rfl hl (by decide) rfl (fun ls hl => ?_)
  have lp4 : ∀ (n4 : Nat) (k : Nat) (x : Nat), (a 3 - k) < n4 → x = lkA (r 0) (r 1) v k → (k ≤ a 3) → ∀ (H : Heap) (locs : List Loc), va_P G.1 vwCl (tkw G ad a r) H → va_D A (tkw G ad a r) → va_S A s.heap H locs → ∀ (ls : Array Slot), lv_has ls 4 [(0, .ref (ad 0)), (1, .int (nI v)), (2, .int (nI x)), (3, .int (nI k))] → WI p l e (rmN 1 21) s m [.ref (ad 0), .int (nI v)] below meth c H locs G A (fun (r9 : Int32) (_ : Unit) => r9 = (nI (lkA (r 0) (r 1) v (a 3)))) (fun (_ : Unit) => tkw G ad a r) (F0 m 4 ls []) := by
    intro n4
    induction n4 with
    | zero => intro k x h9; exact absurd h9 (Nat.not_lt_zero _)
    | succ n4 ih4 =>
      intro k x hm4 e_x hk_k H locs hP hD hS ls hl
      subst e_x
      refine lv_iload_n hx hb dX4_linksAt_4 rfl (lv_at hl 3 rfl) ?_
      refine lv_aload_n hx hb dX4_linksAt_5 rfl (lv_at hl 0 rfl) ?_
      refine va_get (D := G.1) (ci := 3) (v := .int (nI (a 3))) (C := RX4) (T := TX4) (N := 12) hx hb hts inA4 hown hX.1 hP 0 rfl rfl 3 (by decide) (hts _ kw_76) (fun _ h9 => h9) rfl dX4_linksAt_6 ?_
      refine nv_ge (x := k) (y := a 3) (tgt := 36) hx hb dX4_linksAt_9 (by decide) (by omega) (by omega) (fun c9 => ?_) (fun c9 => ?_)
      · refine lv_iload_n hx hb dX4_linksAt_36 rfl (lv_at hl 2 rfl) ?_
        exact re_i (v := (nI (lkA (r 0) (r 1) v k))) hx hb hr hlocks hS () hP hD (by have e9 : k = a 3 := (by omega); rw [e9]) dX4_linksAt_37
      · refine lv_aload_n hx hb dX4_linksAt_12 rfl (lv_at hl 0 rfl) ?_
        refine lv_iload_n hx hb dX4_linksAt_13 rfl (lv_at hl 3 rfl) ?_
        refine ca_Vi (ci := 3) (q := (RX4, TX4, 12)) (rest := []) (wr := ([] : va_W)) F hX (mX4_ends l G ad a r k hT (by omega)) (cA_V hts kw_354 kw_3 kw_351 kw_352 kw_353 hdX4_ends ⟨Nat.le_of_ble_eq_true rfl, Nat.le_of_ble_eq_true rfl⟩) rfl rfl rfl hl.1 rfl (Nat.le_of_ble_eq_true rfl) dX4_linksAt_14 ⟨Nat.le_of_ble_eq_true rfl, Nat.le_of_ble_eq_true rfl⟩ hP hD hS hA (pm_nil _) (fun r14 u14 H locs hp14 hP hD hS => ?_)
        have hP : va_P G.1 vwCl (tkw G ad a r) H := wp_pm (pm_nil _).symm hP
        have hD : va_D A (tkw G ad a r) := wd_pm (pm_nil _).symm hD
        subst hp14
        refine lv_iload_n hx hb dX4_linksAt_17 rfl (lv_at hl 1 rfl) ?_
        refine ca_Ni (rest := []) (wr := tkw G ad a r) F hX (mX7_has l G (edg (r 0) (r 1) k) v (by have := edg_lt t5 t6 k; omega) hv) ⟨cA_N hts kw_357 kw_1 hX.2.2.2.2.2.2.2.2.2.2.1 hdX7_has ⟨Nat.le_of_ble_eq_true rfl, Nat.le_of_ble_eq_true rfl⟩, hts _ kw_356, trivial⟩ rfl hl.1 rfl (Nat.le_of_ble_eq_true rfl) dX4_linksAt_18 ⟨Nat.le_of_ble_eq_true rfl, Nat.le_of_ble_eq_true rfl⟩ hP hD hS hA (List.Perm.refl _) (fun r18 u18 H locs hp18 hP hD hS => ?_)
        have hP : va_P G.1 vwCl (tkw G ad a r) H := hP
        have hD : va_D A (tkw G ad a r) := hD
        subst hp18
        refine bv_eq (b := (edg (r 0) (r 1) k).testBit v) (tgt := 30) hx hb dX4_linksAt_21 (by decide) (fun c21 => ?_) (fun c21 => ?_)
        · refine lv_iinc (v := (nI (k + 1))) (lv' := [(3, .int (nI (k + 1))), (0, .ref (ad 0)), (1, .int (nI v)), (2, .int (nI (lkA (r 0) (r 1) v k)))]) hx hb dX4_linksAt_30 hl (k := 3) rfl (qn_inc _) (by decide) rfl (fun ls hl => ?_)
          refine lv_goto (tgt := 4) hx hb dX4_linksAt_33 (by decide) ?_
          exact ih4 (k + 1) (lkA (r 0) (r 1) v k) (by omega) (by simp [lkA, c21]) (by omega) _ _ hP hD hS ls (lv_sub hl [1, 2, 3, 0] rfl)
        · refine lv_iload_n hx hb dX4_linksAt_24 rfl (lv_at hl 2 rfl) ?_
          refine lv_iconst (v := (nI 1)) hx hb dX4_linksAt_25 (by decide) ?_
          refine lv_iload_n hx hb dX4_linksAt_26 rfl (lv_at hl 3 rfl) ?_
          refine lv_ishl hx hb dX4_linksAt_27 (ti (y := (nI (2 ^ k))) (qn_sh1 (by omega)) ?_)
          refine lv_ior hx hb dX4_linksAt_28 (ti (y := (nI ((lkA (r 0) (r 1) v k) ||| (2 ^ k)))) (qn_or _ _) ?_)
          refine lv_istore_n (lv' := [(2, .int (nI ((lkA (r 0) (r 1) v k) ||| (2 ^ k)))), (0, .ref (ad 0)), (1, .int (nI v)), (3, .int (nI k))]) hx hb dX4_linksAt_29 rfl hl (by decide) rfl (fun ls hl => ?_)
          refine lv_iinc (v := (nI (k + 1))) (lv' := [(3, .int (nI (k + 1))), (2, .int (nI ((lkA (r 0) (r 1) v k) ||| (2 ^ k)))), (0, .ref (ad 0)), (1, .int (nI v))]) hx hb dX4_linksAt_30 hl (k := 3) rfl (qn_inc _) (by decide) rfl (fun ls hl => ?_)
          refine lv_goto (tgt := 4) hx hb dX4_linksAt_33 (by decide) ?_
          exact ih4 (k + 1) ((lkA (r 0) (r 1) v k) ||| (2 ^ k)) (by omega) (by simp [lkA, c21]) (by omega) _ _ hP hD hS ls (lv_sub hl [2, 3, 1, 0] rfl)
  exact lp4 _ 0 0 (Nat.lt_succ_self _) rfl (Nat.zero_le _) _ _ hP hD hS ls (lv_sub hl [2, 3, 1, 0] rfl)

theorem hdX4_areLinked : hdOK yX4_areLinked 2 := by decide +kernel
set_option maxHeartbeats 4000000 in
set_option maxRecDepth 100000 in
theorem mX4_areLinked (l : Launch) (G : GG) (ad : Nat → Nat) (a : Nat → Nat) (r : Nat → Nat → Nat) (u v : Nat) (hT : TB a r) (hu : u < 32) (hv : v < 32) : Mi l yX4_areLinked cX4_areLinked 3 (some .boolean) (rmN 2 44) G [.ref (ad 0), .int (nI u), .int (nI v)] (tkw G ad a r) (fun (r9 : Int32) (_ : Unit) => r9 = (bI (decide (lkA (r 0) (r 1) u (a 3) &&& lkA (r 0) (r 1) v (a 3) ≠ 0)))) (fun (_ : Unit) => tkw G ad a r) := by
  refine Mi.of (cc := cX4_areLinked) (nL := 3) (by decide) (Nat.le_of_ble_eq_true rfl) ?_
  intro p e s m below meth c A ls F hr hlocks hnm hX hA hD hP hS hl
  have F : CallFix p m c cX4_areLinked 3 s [.ref (ad 0), .int (nI u), .int (nI v)].toArray wA RX4 := F
  obtain ⟨hx, hb, hml, hown, hts⟩ := id F
  have hl : lv_has ls 3 [(0, .ref (ad 0)), (1, .int (nI u)), (2, .int (nI v))] := hl
  obtain ⟨t0, t1, t2, t3, t4, t5, t6, t7, t8, t9, t10, t11, t12⟩ := id hT
  have hq := Nat.lt_of_le_of_lt (Nat.and_le_left (n := lkA (r 0) (r 1) u (a 3)) (m := lkA (r 0) (r 1) v (a 3))) (Nat.lt_of_lt_of_le (lkA_lt (r 0) (r 1) u (a 3)) (pw12 t4))
  refine lv_aload_n hx hb dX4_areLinked_0 rfl (lv_at hl 0 rfl) ?_
  refine lv_iload_n hx hb dX4_areLinked_1 rfl (lv_at hl 1 rfl) ?_
  refine ca_Vi (ci := 3) (q := (RX4, TX4, 12)) (rest := []) (wr := ([] : va_W)) F hX (mX4_linksAt l G ad a r u hT (by omega)) (cA_V hts kw_350 kw_3 kw_347 kw_348 kw_349 hdX4_linksAt ⟨Nat.le_of_ble_eq_true rfl, Nat.le_of_ble_eq_true rfl⟩) rfl rfl rfl hl.1 rfl (Nat.le_of_ble_eq_true rfl) dX4_areLinked_2 ⟨Nat.le_of_ble_eq_true rfl, Nat.le_of_ble_eq_true rfl⟩ hP hD hS hA (pm_nil _) (fun r2 u2 H locs hp2 hP hD hS => ?_)
  have hP : va_P G.1 vwCl (tkw G ad a r) H := wp_pm (pm_nil _).symm hP
  have hD : va_D A (tkw G ad a r) := wd_pm (pm_nil _).symm hD
  subst hp2
  refine lv_aload_n hx hb dX4_areLinked_5 rfl (lv_at hl 0 rfl) ?_
  refine lv_iload_n hx hb dX4_areLinked_6 rfl (lv_at hl 2 rfl) ?_
  refine ca_Vi (ci := 3) (q := (RX4, TX4, 12)) (rest := [.int (nI (lkA (r 0) (r 1) u (a 3)))]) (wr := ([] : va_W)) F hX (mX4_linksAt l G ad a r v hT (by omega)) (cA_V hts kw_350 kw_3 kw_347 kw_348 kw_349 hdX4_linksAt ⟨Nat.le_of_ble_eq_true rfl, Nat.le_of_ble_eq_true rfl⟩) rfl rfl rfl hl.1 rfl (Nat.le_of_ble_eq_true rfl) dX4_areLinked_7 ⟨Nat.le_of_ble_eq_true rfl, Nat.le_of_ble_eq_true rfl⟩ hP hD hS hA (pm_nil _) (fun r7 u7 H locs hp7 hP hD hS => ?_)
  have hP : va_P G.1 vwCl (tkw G ad a r) H := wp_pm (pm_nil _).symm hP
  have hD : va_D A (tkw G ad a r) := wd_pm (pm_nil _).symm hD
  subst hp7
  refine lv_iand hx hb dX4_areLinked_10 (ti (y := (nI ((lkA (r 0) (r 1) u (a 3)) &&& (lkA (r 0) (r 1) v (a 3))))) (qn_and _ _) ?_)
  refine nv_zeq (x := (lkA (r 0) (r 1) u (a 3)) &&& (lkA (r 0) (r 1) v (a 3))) (tgt := 18) hx hb dX4_areLinked_11 (by decide) (by omega) (fun c11 => ?_) (fun c11 => ?_)
  · refine lv_iconst (v := (nI 0)) hx hb dX4_areLinked_18 (by decide) ?_
    exact re_z (v := (nI 0)) hx hb hr hlocks hS () hP hD (by simp [c11, bI]; try rfl) (by decide) dX4_areLinked_19
  · refine lv_iconst (v := (nI 1)) hx hb dX4_areLinked_14 (by decide) ?_
    refine lv_goto (tgt := 19) hx hb dX4_areLinked_15 (by decide) ?_
    exact re_z (v := (nI 1)) hx hb hr hlocks hS () hP hD (by simp [c11, bI]; try rfl) (by decide) dX4_areLinked_19

theorem hdX4_upLinks : hdOK yX4_upLinks 0 := by decide +kernel
set_option maxHeartbeats 4000000 in
set_option maxRecDepth 100000 in
theorem mX4_upLinks (l : Launch) (G : GG) (ad : Nat → Nat) (a : Nat → Nat) (r : Nat → Nat → Nat) (hT : TB a r) : Mi l yX4_upLinks cX4_upLinks 1 (some .int) (rmN 0 0) G [.ref (ad 0)] (tkw G ad a r) (fun (r9 : Int32) (_ : Unit) => r9 = (nI (nd (2 ^ a 3 - 1) (a 9)))) (fun (_ : Unit) => tkw G ad a r) := by
  refine Mi.of (cc := cX4_upLinks) (nL := 1) (by decide) (Nat.le_of_ble_eq_true rfl) ?_
  intro p e s m below meth c A ls F hr hlocks hnm hX hA hD hP hS hl
  have F : CallFix p m c cX4_upLinks 1 s [.ref (ad 0)].toArray wA RX4 := F
  obtain ⟨hx, hb, hml, hown, hts⟩ := id F
  have hl : lv_has ls 1 [(0, .ref (ad 0))] := hl
  obtain ⟨t0, t1, t2, t3, t4, t5, t6, t7, t8, t9, t10, t11, t12⟩ := id hT
  refine lv_iconst (v := (nI 1)) hx hb dX4_upLinks_0 (by decide) ?_
  refine lv_aload_n hx hb dX4_upLinks_1 rfl (lv_at hl 0 rfl) ?_
  refine va_get (D := G.1) (ci := 3) (v := .int (nI (a 3))) (C := RX4) (T := TX4) (N := 12) hx hb hts inA4 hown hX.1 hP 0 rfl rfl 3 (by decide) (hts _ kw_76) (fun _ h9 => h9) rfl dX4_upLinks_2 ?_
  refine lv_ishl hx hb dX4_upLinks_5 (ti (y := (nI (2 ^ (a 3)))) (qn_sh1 (by omega)) ?_)
  refine lv_iconst (v := (nI 1)) hx hb dX4_upLinks_6 (by decide) ?_
  refine lv_isub hx hb dX4_upLinks_7 (ti (y := (nI ((2 ^ (a 3)) - 1))) (pk_sub (Nat.one_le_two_pow)) ?_)
  refine lv_aload_n hx hb dX4_upLinks_8 rfl (lv_at hl 0 rfl) ?_
  refine va_get (D := G.1) (ci := 3) (v := .int (nI (a 9))) (C := RX4) (T := TX4) (N := 12) hx hb hts inA4 hown hX.1 hP 0 rfl rfl 9 (by decide) (hts _ kw_100) (fun _ h9 => h9) rfl dX4_upLinks_9 ?_
  refine lv_iconst (v := (-1)) hx hb dX4_upLinks_12 (by decide) ?_
  refine lv_ixor hx hb dX4_upLinks_13 ?_
  refine lv_iand hx hb dX4_upLinks_14 (ti (y := (nI (nd ((2 ^ (a 3)) - 1) (a 9)))) (qn_andn _ _) ?_)
  exact re_i (v := (nI (nd ((2 ^ (a 3)) - 1) (a 9)))) hx hb hr hlocks hS () hP hD rfl dX4_upLinks_15

theorem hdX4_costOf : hdOK yX4_costOf 1 := by decide +kernel
set_option maxHeartbeats 4000000 in
set_option maxRecDepth 100000 in
theorem mX4_costOf (l : Launch) (G : GG) (ad : Nat → Nat) (a : Nat → Nat) (r : Nat → Nat → Nat) (set : Nat) (hT : TB a r) (hs : set < 4096) : Mi l yX4_costOf cX4_costOf 4 (some .int) (rmN 1 21) G [.ref (ad 0), .int (nI set)] (tkw G ad a r) (fun (r9 : Int32) (_ : Unit) => r9 = (nI (cst (r 2) set (a 3)))) (fun (_ : Unit) => tkw G ad a r) := by
  refine Mi.of (cc := cX4_costOf) (nL := 4) (by decide) (Nat.le_of_ble_eq_true rfl) ?_
  intro p e s m below meth c A ls F hr hlocks hnm hX hA hD hP hS hl
  have F : CallFix p m c cX4_costOf 4 s [.ref (ad 0), .int (nI set)].toArray wA RX4 := F
  obtain ⟨hx, hb, hml, hown, hts⟩ := id F
  have hl : lv_has ls 4 [(0, .ref (ad 0)), (1, .int (nI set))] := hl
  obtain ⟨t0, t1, t2, t3, t4, t5, t6, t7, t8, t9, t10, t11, t12⟩ := id hT
  refine lv_iconst (v := (nI 0)) hx hb dX4_costOf_0 (by decide) ?_
  refine lv_istore_n (lv' := [(2, .int (nI 0)), (0, .ref (ad 0)), (1, .int (nI set))]) hx hb dX4_costOf_1 rfl hl (by decide) rfl (fun ls hl => ?_)
  refine lv_iconst (v := (nI 0)) hx hb dX4_costOf_2 (by decide) ?_
  refine lv_istore_n (lv' := [(3, .int (nI 0)), (2, .int (nI 0)), (0, .ref (ad 0)), (1, .int (nI set))]) hx hb dX4_costOf_3 rfl hl (by decide) rfl (fun ls hl => ?_)
  have lp4 : ∀ (n4 : Nat) (k : Nat) (x : Nat), (a 3 - k) < n4 → x = cst (r 2) set k → (k ≤ a 3) → ∀ (H : Heap) (locs : List Loc), va_P G.1 vwCl (tkw G ad a r) H → va_D A (tkw G ad a r) → va_S A s.heap H locs → ∀ (ls : Array Slot), lv_has ls 4 [(0, .ref (ad 0)), (1, .int (nI set)), (2, .int (nI x)), (3, .int (nI k))] → WI p l e (rmN 1 21) s m [.ref (ad 0), .int (nI set)] below meth c H locs G A (fun (r9 : Int32) (_ : Unit) => r9 = (nI (cst (r 2) set (a 3)))) (fun (_ : Unit) => tkw G ad a r) (F0 m 4 ls []) := by
    intro n4
    induction n4 with
    | zero => intro k x h9; exact absurd h9 (Nat.not_lt_zero _)
    | succ n4 ih4 =>
      intro k x hm4 e_x hk_k H locs hP hD hS ls hl
      subst e_x
      refine lv_iload_n hx hb dX4_costOf_4 rfl (lv_at hl 3 rfl) ?_
      refine lv_aload_n hx hb dX4_costOf_5 rfl (lv_at hl 0 rfl) ?_
      refine va_get (D := G.1) (ci := 3) (v := .int (nI (a 3))) (C := RX4) (T := TX4) (N := 12) hx hb hts inA4 hown hX.1 hP 0 rfl rfl 3 (by decide) (hts _ kw_76) (fun _ h9 => h9) rfl dX4_costOf_6 ?_
      refine nv_ge (x := k) (y := a 3) (tgt := 35) hx hb dX4_costOf_9 (by decide) (by omega) (by omega) (fun c9 => ?_) (fun c9 => ?_)
      · refine lv_iload_n hx hb dX4_costOf_35 rfl (lv_at hl 2 rfl) ?_
        exact re_i (v := (nI (cst (r 2) set k))) hx hb hr hlocks hS () hP hD (by have e9 : k = a 3 := (by omega); rw [e9]) dX4_costOf_36
      · refine lv_iload_n hx hb dX4_costOf_12 rfl (lv_at hl 1 rfl) ?_
        refine lv_iload_n hx hb dX4_costOf_13 rfl (lv_at hl 3 rfl) ?_
        refine ca_Ni (rest := []) (wr := tkw G ad a r) F hX (mX7_has l G set k (by omega) (by omega)) ⟨cA_N hts kw_357 kw_1 hX.2.2.2.2.2.2.2.2.2.2.1 hdX7_has ⟨Nat.le_of_ble_eq_true rfl, Nat.le_of_ble_eq_true rfl⟩, hts _ kw_356, trivial⟩ rfl hl.1 rfl (Nat.le_of_ble_eq_true rfl) dX4_costOf_14 ⟨Nat.le_of_ble_eq_true rfl, Nat.le_of_ble_eq_true rfl⟩ hP hD hS hA (List.Perm.refl _) (fun r14 u14 H locs hp14 hP hD hS => ?_)
        have hP : va_P G.1 vwCl (tkw G ad a r) H := hP
        have hD : va_D A (tkw G ad a r) := hD
        subst hp14
        refine bv_eq (b := set.testBit k) (tgt := 29) hx hb dX4_costOf_17 (by decide) (fun c17 => ?_) (fun c17 => ?_)
        · refine lv_iinc (v := (nI (k + 1))) (lv' := [(3, .int (nI (k + 1))), (0, .ref (ad 0)), (1, .int (nI set)), (2, .int (nI (cst (r 2) set k)))]) hx hb dX4_costOf_29 hl (k := 3) rfl (qn_inc _) (by decide) rfl (fun ls hl => ?_)
          refine lv_goto (tgt := 4) hx hb dX4_costOf_32 (by decide) ?_
          exact ih4 (k + 1) (cst (r 2) set k) (by omega) (by simp [cst, c17]) (by omega) _ _ hP hD hS ls (lv_sub hl [1, 2, 3, 0] rfl)
        · refine lv_iload_n hx hb dX4_costOf_20 rfl (lv_at hl 2 rfl) ?_
          refine lv_aload_n hx hb dX4_costOf_21 rfl (lv_at hl 0 rfl) ?_
          refine va_get (D := G.1) (ci := 3) (v := .ref (ad 3)) (C := RX4) (T := TX4) (N := 12) hx hb hts inA4 hown hX.1 hP 0 rfl rfl 6 (by decide) (hts _ kw_88) (fun _ h9 => h9) rfl dX4_costOf_22 ?_
          refine lv_iload_n hx hb dX4_costOf_25 rfl (lv_at hl 3 rfl) ?_
          refine nv_ald (f := r 2) (k := k) hx hb hX hP 3 rfl (by omega) (by decide) dX4_costOf_26 ?_
          refine lv_iadd hx hb dX4_costOf_27 (ti (y := (nI ((cst (r 2) set k) + ((r 2) k)))) (nI_add _ _) ?_)
          refine lv_istore_n (lv' := [(2, .int (nI ((cst (r 2) set k) + ((r 2) k)))), (0, .ref (ad 0)), (1, .int (nI set)), (3, .int (nI k))]) hx hb dX4_costOf_28 rfl hl (by decide) rfl (fun ls hl => ?_)
          refine lv_iinc (v := (nI (k + 1))) (lv' := [(3, .int (nI (k + 1))), (2, .int (nI ((cst (r 2) set k) + ((r 2) k)))), (0, .ref (ad 0)), (1, .int (nI set))]) hx hb dX4_costOf_29 hl (k := 3) rfl (qn_inc _) (by decide) rfl (fun ls hl => ?_)
          refine lv_goto (tgt := 4) hx hb dX4_costOf_32 (by decide) ?_
          exact ih4 (k + 1) ((cst (r 2) set k) + ((r 2) k)) (by omega) (by simp [cst, c17]) (by omega) _ _ hP hD hS ls (lv_sub hl [2, 3, 1, 0] rfl)
  exact lp4 _ 0 0 (Nat.lt_succ_self _) rfl (Nat.zero_le _) _ _ hP hD hS ls (lv_sub hl [2, 3, 1, 0] rfl)

theorem hdX4_nodesOf : hdOK yX4_nodesOf 1 := by decide +kernel
set_option maxHeartbeats 4000000 in
set_option maxRecDepth 100000 in
theorem mX4_nodesOf (l : Launch) (G : GG) (ad : Nat → Nat) (a : Nat → Nat) (r : Nat → Nat → Nat) (set : Nat) (hT : TB a r) (hs : set < 4096) : Mi l yX4_nodesOf cX4_nodesOf 4 (some .int) (rmN 1 21) G [.ref (ad 0), .int (nI set)] (tkw G ad a r) (fun (r9 : Int32) (_ : Unit) => r9 = (nI (nof (r 0) (r 1) (a 1) set (a 3)))) (fun (_ : Unit) => tkw G ad a r) := by
  refine Mi.of (cc := cX4_nodesOf) (nL := 4) (by decide) (Nat.le_of_ble_eq_true rfl) ?_
  intro p e s m below meth c A ls F hr hlocks hnm hX hA hD hP hS hl
  have F : CallFix p m c cX4_nodesOf 4 s [.ref (ad 0), .int (nI set)].toArray wA RX4 := F
  obtain ⟨hx, hb, hml, hown, hts⟩ := id F
  have hl : lv_has ls 4 [(0, .ref (ad 0)), (1, .int (nI set))] := hl
  obtain ⟨t0, t1, t2, t3, t4, t5, t6, t7, t8, t9, t10, t11, t12⟩ := id hT
  refine lv_iconst (v := (nI 1)) hx hb dX4_nodesOf_0 (by decide) ?_
  refine lv_aload_n hx hb dX4_nodesOf_1 rfl (lv_at hl 0 rfl) ?_
  refine va_get (D := G.1) (ci := 3) (v := .int (nI (a 1))) (C := RX4) (T := TX4) (N := 12) hx hb hts inA4 hown hX.1 hP 0 rfl rfl 1 (by decide) (hts _ kw_69) (fun _ h9 => h9) rfl dX4_nodesOf_2 ?_
  refine lv_ishl hx hb dX4_nodesOf_5 (ti (y := (nI (2 ^ (a 1)))) (qn_sh1 (by omega)) ?_)
  refine lv_istore_n (lv' := [(2, .int (nI (2 ^ (a 1)))), (0, .ref (ad 0)), (1, .int (nI set))]) hx hb dX4_nodesOf_6 rfl hl (by decide) rfl (fun ls hl => ?_)
  refine lv_iconst (v := (nI 0)) hx hb dX4_nodesOf_7 (by decide) ?_
  refine lv_istore_n (lv' := [(3, .int (nI 0)), (2, .int (nI (2 ^ (a 1)))), (0, .ref (ad 0)), (1, .int (nI set))]) hx hb dX4_nodesOf_8 rfl hl (by decide) rfl (fun ls hl => ?_)
  have lp9 : ∀ (n9 : Nat) (k : Nat) (x : Nat), (a 3 - k) < n9 → x = nof (r 0) (r 1) (a 1) set k → (k ≤ a 3) → ∀ (H : Heap) (locs : List Loc), va_P G.1 vwCl (tkw G ad a r) H → va_D A (tkw G ad a r) → va_S A s.heap H locs → ∀ (ls : Array Slot), lv_has ls 4 [(0, .ref (ad 0)), (1, .int (nI set)), (2, .int (nI x)), (3, .int (nI k))] → WI p l e (rmN 1 21) s m [.ref (ad 0), .int (nI set)] below meth c H locs G A (fun (r9 : Int32) (_ : Unit) => r9 = (nI (nof (r 0) (r 1) (a 1) set (a 3)))) (fun (_ : Unit) => tkw G ad a r) (F0 m 9 ls []) := by
    intro n9
    induction n9 with
    | zero => intro k x h9; exact absurd h9 (Nat.not_lt_zero _)
    | succ n9 ih9 =>
      intro k x hm9 e_x hk_k H locs hP hD hS ls hl
      subst e_x
      refine lv_iload_n hx hb dX4_nodesOf_9 rfl (lv_at hl 3 rfl) ?_
      refine lv_aload_n hx hb dX4_nodesOf_10 rfl (lv_at hl 0 rfl) ?_
      refine va_get (D := G.1) (ci := 3) (v := .int (nI (a 3))) (C := RX4) (T := TX4) (N := 12) hx hb hts inA4 hown hX.1 hP 0 rfl rfl 3 (by decide) (hts _ kw_76) (fun _ h9 => h9) rfl dX4_nodesOf_11 ?_
      refine nv_ge (x := k) (y := a 3) (tgt := 39) hx hb dX4_nodesOf_14 (by decide) (by omega) (by omega) (fun c14 => ?_) (fun c14 => ?_)
      · refine lv_iload_n hx hb dX4_nodesOf_39 rfl (lv_at hl 2 rfl) ?_
        exact re_i (v := (nI (nof (r 0) (r 1) (a 1) set k))) hx hb hr hlocks hS () hP hD (by have e9 : k = a 3 := (by omega); rw [e9]) dX4_nodesOf_40
      · refine lv_iload_n hx hb dX4_nodesOf_17 rfl (lv_at hl 1 rfl) ?_
        refine lv_iload_n hx hb dX4_nodesOf_18 rfl (lv_at hl 3 rfl) ?_
        refine ca_Ni (rest := []) (wr := tkw G ad a r) F hX (mX7_has l G set k (by omega) (by omega)) ⟨cA_N hts kw_357 kw_1 hX.2.2.2.2.2.2.2.2.2.2.1 hdX7_has ⟨Nat.le_of_ble_eq_true rfl, Nat.le_of_ble_eq_true rfl⟩, hts _ kw_356, trivial⟩ rfl hl.1 rfl (Nat.le_of_ble_eq_true rfl) dX4_nodesOf_19 ⟨Nat.le_of_ble_eq_true rfl, Nat.le_of_ble_eq_true rfl⟩ hP hD hS hA (List.Perm.refl _) (fun r19 u19 H locs hp19 hP hD hS => ?_)
        have hP : va_P G.1 vwCl (tkw G ad a r) H := hP
        have hD : va_D A (tkw G ad a r) := hD
        subst hp19
        refine bv_eq (b := set.testBit k) (tgt := 33) hx hb dX4_nodesOf_22 (by decide) (fun c22 => ?_) (fun c22 => ?_)
        · refine lv_iinc (v := (nI (k + 1))) (lv' := [(3, .int (nI (k + 1))), (0, .ref (ad 0)), (1, .int (nI set)), (2, .int (nI (nof (r 0) (r 1) (a 1) set k)))]) hx hb dX4_nodesOf_33 hl (k := 3) rfl (qn_inc _) (by decide) rfl (fun ls hl => ?_)
          refine lv_goto (tgt := 9) hx hb dX4_nodesOf_36 (by decide) ?_
          exact ih9 (k + 1) (nof (r 0) (r 1) (a 1) set k) (by omega) (by simp [nof, c22]) (by omega) _ _ hP hD hS ls (lv_sub hl [1, 2, 3, 0] rfl)
        · refine lv_iload_n hx hb dX4_nodesOf_25 rfl (lv_at hl 2 rfl) ?_
          refine lv_aload_n hx hb dX4_nodesOf_26 rfl (lv_at hl 0 rfl) ?_
          refine lv_iload_n hx hb dX4_nodesOf_27 rfl (lv_at hl 3 rfl) ?_
          refine ca_Vi (ci := 3) (q := (RX4, TX4, 12)) (rest := [.int (nI (nof (r 0) (r 1) (a 1) set k))]) (wr := ([] : va_W)) F hX (mX4_ends l G ad a r k hT (by omega)) (cA_V hts kw_354 kw_3 kw_351 kw_352 kw_353 hdX4_ends ⟨Nat.le_of_ble_eq_true rfl, Nat.le_of_ble_eq_true rfl⟩) rfl rfl rfl hl.1 rfl (Nat.le_of_ble_eq_true rfl) dX4_nodesOf_28 ⟨Nat.le_of_ble_eq_true rfl, Nat.le_of_ble_eq_true rfl⟩ hP hD hS hA (pm_nil _) (fun r28 u28 H locs hp28 hP hD hS => ?_)
          have hP : va_P G.1 vwCl (tkw G ad a r) H := wp_pm (pm_nil _).symm hP
          have hD : va_D A (tkw G ad a r) := wd_pm (pm_nil _).symm hD
          subst hp28
          refine lv_ior hx hb dX4_nodesOf_31 (ti (y := (nI ((nof (r 0) (r 1) (a 1) set k) ||| (edg (r 0) (r 1) k)))) (qn_or _ _) ?_)
          refine lv_istore_n (lv' := [(2, .int (nI ((nof (r 0) (r 1) (a 1) set k) ||| (edg (r 0) (r 1) k)))), (0, .ref (ad 0)), (1, .int (nI set)), (3, .int (nI k))]) hx hb dX4_nodesOf_32 rfl hl (by decide) rfl (fun ls hl => ?_)
          refine lv_iinc (v := (nI (k + 1))) (lv' := [(3, .int (nI (k + 1))), (2, .int (nI ((nof (r 0) (r 1) (a 1) set k) ||| (edg (r 0) (r 1) k)))), (0, .ref (ad 0)), (1, .int (nI set))]) hx hb dX4_nodesOf_33 hl (k := 3) rfl (qn_inc _) (by decide) rfl (fun ls hl => ?_)
          refine lv_goto (tgt := 9) hx hb dX4_nodesOf_36 (by decide) ?_
          exact ih9 (k + 1) ((nof (r 0) (r 1) (a 1) set k) ||| (edg (r 0) (r 1) k)) (by omega) (by simp [nof, c22]) (by omega) _ _ hP hD hS ls (lv_sub hl [2, 3, 1, 0] rfl)
  exact lp9 _ 0 (2 ^ (a 1)) (Nat.lt_succ_self _) rfl (Nat.zero_le _) _ _ hP hD hS ls (lv_sub hl [2, 3, 1, 0] rfl)

theorem hdX4_hangingBy : hdOK yX4_hangingBy 1 := by decide +kernel
set_option maxHeartbeats 4000000 in
set_option maxRecDepth 100000 in
theorem mX4_hangingBy (l : Launch) (G : GG) (ad : Nat → Nat) (a : Nat → Nat) (r : Nat → Nat → Nat) (set : Nat) (hT : TB a r) (hs : set < 4096) : Mi l yX4_hangingBy cX4_hangingBy 5 (some .int) (rmN 1 21) G [.ref (ad 0), .int (nI set)] (tkw G ad a r) (fun (r9 : Int32) (_ : Unit) => r9 = (nI (hgn (r 0) (r 1) set (a 3) (a 0 - 1) (2 ^ a 1)))) (fun (_ : Unit) => tkw G ad a r) := by
  refine Mi.of (cc := cX4_hangingBy) (nL := 5) (by decide) (Nat.le_of_ble_eq_true rfl) ?_
  intro p e s m below meth c A ls F hr hlocks hnm hX hA hD hP hS hl
  have F : CallFix p m c cX4_hangingBy 5 s [.ref (ad 0), .int (nI set)].toArray wA RX4 := F
  obtain ⟨hx, hb, hml, hown, hts⟩ := id F
  have hl : lv_has ls 5 [(0, .ref (ad 0)), (1, .int (nI set))] := hl
  obtain ⟨t0, t1, t2, t3, t4, t5, t6, t7, t8, t9, t10, t11, t12⟩ := id hT
  have hz : 2 ^ a 1 < 128 := pw_lt (n := 7) (by omega)
  refine lv_iconst (v := (nI 1)) hx hb dX4_hangingBy_0 (by decide) ?_
  refine lv_aload_n hx hb dX4_hangingBy_1 rfl (lv_at hl 0 rfl) ?_
  refine va_get (D := G.1) (ci := 3) (v := .int (nI (a 1))) (C := RX4) (T := TX4) (N := 12) hx hb hts inA4 hown hX.1 hP 0 rfl rfl 1 (by decide) (hts _ kw_69) (fun _ h9 => h9) rfl dX4_hangingBy_2 ?_
  refine lv_ishl hx hb dX4_hangingBy_5 (ti (y := (nI (2 ^ (a 1)))) (qn_sh1 (by omega)) ?_)
  refine lv_istore_n (lv' := [(2, .int (nI (2 ^ (a 1)))), (0, .ref (ad 0)), (1, .int (nI set))]) hx hb dX4_hangingBy_6 rfl hl (by decide) rfl (fun ls hl => ?_)
  refine lv_iconst (v := (nI 1)) hx hb dX4_hangingBy_7 (by decide) ?_
  refine lv_istore_n (lv' := [(3, .int (nI 1)), (2, .int (nI (2 ^ (a 1)))), (0, .ref (ad 0)), (1, .int (nI set))]) hx hb dX4_hangingBy_8 rfl hl (by decide) rfl (fun ls hl => ?_)
  have lp9 : ∀ (n9 : Nat) (q : Nat) (x : Nat), (a 0 - q) < n9 → x = hgn (r 0) (r 1) set (a 3) q (2 ^ a 1) → (q + 1 ≤ a 0) → ∀ (H : Heap) (locs : List Loc), va_P G.1 vwCl (tkw G ad a r) H → va_D A (tkw G ad a r) → va_S A s.heap H locs → ∀ (ls : Array Slot), lv_has ls 5 [(0, .ref (ad 0)), (1, .int (nI set)), (2, .int (nI x)), (3, .int (nI (q + 1)))] → WI p l e (rmN 1 21) s m [.ref (ad 0), .int (nI set)] below meth c H locs G A (fun (r9 : Int32) (_ : Unit) => r9 = (nI (hgn (r 0) (r 1) set (a 3) (a 0 - 1) (2 ^ a 1)))) (fun (_ : Unit) => tkw G ad a r) (F0 m 9 ls []) := by
    intro n9
    induction n9 with
    | zero => intro q x h9; exact absurd h9 (Nat.not_lt_zero _)
    | succ n9 ih9 =>
      intro q x hm9 e_x hq H locs hP hD hS ls hl
      subst e_x
      refine lv_iload_n hx hb dX4_hangingBy_9 rfl (lv_at hl 3 rfl) ?_
      refine lv_aload_n hx hb dX4_hangingBy_10 rfl (lv_at hl 0 rfl) ?_
      refine va_get (D := G.1) (ci := 3) (v := .int (nI (a 0))) (C := RX4) (T := TX4) (N := 12) hx hb hts inA4 hown hX.1 hP 0 rfl rfl 0 (by decide) (hts _ kw_62) (fun _ h9 => h9) rfl dX4_hangingBy_11 ?_
      refine nv_ge (x := q + 1) (y := a 0) (tgt := 70) hx hb dX4_hangingBy_14 (by decide) (by omega) (by omega) (fun c14 => ?_) (fun c14 => ?_)
      · refine lv_iload_n hx hb dX4_hangingBy_70 rfl (lv_at hl 2 rfl) ?_
        exact re_i (v := (nI (hgn (r 0) (r 1) set (a 3) q (2 ^ a 1)))) hx hb hr hlocks hS () hP hD (by have e9 : q = a 0 - 1 := (by omega); rw [e9]) dX4_hangingBy_71
      · refine lv_iconst (v := (nI 0)) hx hb dX4_hangingBy_17 (by decide) ?_
        refine lv_istore (lv' := [(4, .int (nI 0)), (0, .ref (ad 0)), (1, .int (nI set)), (2, .int (nI (hgn (r 0) (r 1) set (a 3) q (2 ^ a 1)))), (3, .int (nI (q + 1)))]) hx hb dX4_hangingBy_18 hl (by decide) rfl (fun ls hl => ?_)
        have lp20 : ∀ (n20 : Nat) (k : Nat) (y : Nat), (a 3 - k) < n20 → y = hgr (r 0) (r 1) set k (hgn (r 0) (r 1) set (a 3) q (2 ^ a 1)) → (k ≤ a 3) → ∀ (H : Heap) (locs : List Loc), va_P G.1 vwCl (tkw G ad a r) H → va_D A (tkw G ad a r) → va_S A s.heap H locs → ∀ (ls : Array Slot), lv_has ls 5 [(0, .ref (ad 0)), (1, .int (nI set)), (2, .int (nI y)), (3, .int (nI (q + 1))), (4, .int (nI k))] → WI p l e (rmN 1 21) s m [.ref (ad 0), .int (nI set)] below meth c H locs G A (fun (r9 : Int32) (_ : Unit) => r9 = (nI (hgn (r 0) (r 1) set (a 3) (a 0 - 1) (2 ^ a 1)))) (fun (_ : Unit) => tkw G ad a r) (F0 m 20 ls []) := by
          intro n20
          induction n20 with
          | zero => intro k y h9; exact absurd h9 (Nat.not_lt_zero _)
          | succ n20 ih20 =>
            intro k y hm20 e_y hk_k H locs hP hD hS ls hl
            subst e_y
            refine lv_iload hx hb dX4_hangingBy_20 (lv_at hl 4 rfl) ?_
            refine lv_aload_n hx hb dX4_hangingBy_22 rfl (lv_at hl 0 rfl) ?_
            refine va_get (D := G.1) (ci := 3) (v := .int (nI (a 3))) (C := RX4) (T := TX4) (N := 12) hx hb hts inA4 hown hX.1 hP 0 rfl rfl 3 (by decide) (hts _ kw_76) (fun _ h9 => h9) rfl dX4_hangingBy_23 ?_
            refine nv_ge (x := k) (y := a 3) (tgt := 64) hx hb dX4_hangingBy_26 (by decide) (by omega) (by omega) (fun c26 => ?_) (fun c26 => ?_)
            · refine lv_iinc (v := (nI ((q + 1) + 1))) (lv' := [(3, .int (nI ((q + 1) + 1))), (0, .ref (ad 0)), (1, .int (nI set)), (2, .int (nI (hgr (r 0) (r 1) set k (hgn (r 0) (r 1) set (a 3) q (2 ^ a 1))))), (4, .int (nI k))]) hx hb dX4_hangingBy_64 hl (k := 3) rfl (qn_inc _) (by decide) rfl (fun ls hl => ?_)
              refine lv_goto (tgt := 9) hx hb dX4_hangingBy_67 (by decide) ?_
              exact ih9 (q + 1) (hgr (r 0) (r 1) set k (hgn (r 0) (r 1) set (a 3) q (2 ^ a 1))) (by omega) (by have e9 : k = a 3 := (by omega); rw [e9]; rfl) (by omega) _ _ hP hD hS ls (lv_sub hl [1, 2, 3, 0] rfl)
            · refine lv_iload_n hx hb dX4_hangingBy_29 rfl (lv_at hl 1 rfl) ?_
              refine lv_iload hx hb dX4_hangingBy_30 (lv_at hl 4 rfl) ?_
              refine ca_Ni (rest := []) (wr := tkw G ad a r) F hX (mX7_has l G set k (by omega) (by omega)) ⟨cA_N hts kw_357 kw_1 hX.2.2.2.2.2.2.2.2.2.2.1 hdX7_has ⟨Nat.le_of_ble_eq_true rfl, Nat.le_of_ble_eq_true rfl⟩, hts _ kw_356, trivial⟩ rfl hl.1 rfl (Nat.le_of_ble_eq_true rfl) dX4_hangingBy_32 ⟨Nat.le_of_ble_eq_true rfl, Nat.le_of_ble_eq_true rfl⟩ hP hD hS hA (List.Perm.refl _) (fun r32 u32 H locs hp32 hP hD hS => ?_)
              have hP : va_P G.1 vwCl (tkw G ad a r) H := hP
              have hD : va_D A (tkw G ad a r) := hD
              subst hp32
              refine bv_eq (b := set.testBit k) (tgt := 58) hx hb dX4_hangingBy_35 (by decide) (fun c35 => ?_) (fun c35 => ?_)
              · refine lv_iinc (v := (nI (k + 1))) (lv' := [(4, .int (nI (k + 1))), (0, .ref (ad 0)), (1, .int (nI set)), (2, .int (nI (hgr (r 0) (r 1) set k (hgn (r 0) (r 1) set (a 3) q (2 ^ a 1))))), (3, .int (nI (q + 1)))]) hx hb dX4_hangingBy_58 hl (k := 4) rfl (qn_inc _) (by decide) rfl (fun ls hl => ?_)
                refine lv_goto (tgt := 20) hx hb dX4_hangingBy_61 (by decide) ?_
                exact ih20 (k + 1) (hgr (r 0) (r 1) set k (hgn (r 0) (r 1) set (a 3) q (2 ^ a 1))) (by omega) (by first | (rw [hgr, if_pos ⟨c35, c46⟩]; done) | (rw [hgr, if_neg (fun h => h.2 c46)]; done) | (rw [hgr, if_neg (fun h => by rw [c35] at h; exact absurd h.1 (by decide))]; done)) (by omega) _ _ hP hD hS ls (lv_sub hl [1, 2, 3, 4, 0] rfl)
              · refine lv_iload_n hx hb dX4_hangingBy_38 rfl (lv_at hl 2 rfl) ?_
                refine lv_aload_n hx hb dX4_hangingBy_39 rfl (lv_at hl 0 rfl) ?_
                refine lv_iload hx hb dX4_hangingBy_40 (lv_at hl 4 rfl) ?_
                refine ca_Vi (ci := 3) (q := (RX4, TX4, 12)) (rest := [.int (nI (hgr (r 0) (r 1) set k (hgn (r 0) (r 1) set (a 3) q (2 ^ a 1))))]) (wr := ([] : va_W)) F hX (mX4_ends l G ad a r k hT (by omega)) (cA_V hts kw_354 kw_3 kw_351 kw_352 kw_353 hdX4_ends ⟨Nat.le_of_ble_eq_true rfl, Nat.le_of_ble_eq_true rfl⟩) rfl rfl rfl hl.1 rfl (Nat.le_of_ble_eq_true rfl) dX4_hangingBy_42 ⟨Nat.le_of_ble_eq_true rfl, Nat.le_of_ble_eq_true rfl⟩ hP hD hS hA (pm_nil _) (fun r42 u42 H locs hp42 hP hD hS => ?_)
                have hP : va_P G.1 vwCl (tkw G ad a r) H := wp_pm (pm_nil _).symm hP
                have hD : va_D A (tkw G ad a r) := wd_pm (pm_nil _).symm hD
                subst hp42
                refine lv_iand hx hb dX4_hangingBy_45 (ti (y := (nI ((hgr (r 0) (r 1) set k (hgn (r 0) (r 1) set (a 3) q (2 ^ a 1))) &&& (edg (r 0) (r 1) k)))) (qn_and _ _) ?_)
                refine nv_zeq (x := (hgr (r 0) (r 1) set k (hgn (r 0) (r 1) set (a 3) q (2 ^ a 1))) &&& (edg (r 0) (r 1) k)) (tgt := 58) hx hb dX4_hangingBy_46 (by decide) (by have h1 := hgr_lt t5 t6 (set := set) (hgn_lt t5 t6 (set := set) (L := a 3) hz q) k; have h2 := Nat.and_le_left (n := hgr (r 0) (r 1) set k (hgn (r 0) (r 1) set (a 3) q (2 ^ a 1))) (m := edg (r 0) (r 1) k); omega) (fun c46 => ?_) (fun c46 => ?_)
                · refine lv_iinc (v := (nI (k + 1))) (lv' := [(4, .int (nI (k + 1))), (0, .ref (ad 0)), (1, .int (nI set)), (2, .int (nI (hgr (r 0) (r 1) set k (hgn (r 0) (r 1) set (a 3) q (2 ^ a 1))))), (3, .int (nI (q + 1)))]) hx hb dX4_hangingBy_58 hl (k := 4) rfl (qn_inc _) (by decide) rfl (fun ls hl => ?_)
                  refine lv_goto (tgt := 20) hx hb dX4_hangingBy_61 (by decide) ?_
                  exact ih20 (k + 1) (hgr (r 0) (r 1) set k (hgn (r 0) (r 1) set (a 3) q (2 ^ a 1))) (by omega) (by first | (rw [hgr, if_pos ⟨c35, c46⟩]; done) | (rw [hgr, if_neg (fun h => h.2 c46)]; done) | (rw [hgr, if_neg (fun h => by rw [c35] at h; exact absurd h.1 (by decide))]; done)) (by omega) _ _ hP hD hS ls (lv_sub hl [1, 2, 3, 4, 0] rfl)
                · refine lv_iload_n hx hb dX4_hangingBy_49 rfl (lv_at hl 2 rfl) ?_
                  refine lv_aload_n hx hb dX4_hangingBy_50 rfl (lv_at hl 0 rfl) ?_
                  refine lv_iload hx hb dX4_hangingBy_51 (lv_at hl 4 rfl) ?_
                  refine ca_Vi (ci := 3) (q := (RX4, TX4, 12)) (rest := [.int (nI (hgr (r 0) (r 1) set k (hgn (r 0) (r 1) set (a 3) q (2 ^ a 1))))]) (wr := ([] : va_W)) F hX (mX4_ends l G ad a r k hT (by omega)) (cA_V hts kw_354 kw_3 kw_351 kw_352 kw_353 hdX4_ends ⟨Nat.le_of_ble_eq_true rfl, Nat.le_of_ble_eq_true rfl⟩) rfl rfl rfl hl.1 rfl (Nat.le_of_ble_eq_true rfl) dX4_hangingBy_53 ⟨Nat.le_of_ble_eq_true rfl, Nat.le_of_ble_eq_true rfl⟩ hP hD hS hA (pm_nil _) (fun r53 u53 H locs hp53 hP hD hS => ?_)
                  have hP : va_P G.1 vwCl (tkw G ad a r) H := wp_pm (pm_nil _).symm hP
                  have hD : va_D A (tkw G ad a r) := wd_pm (pm_nil _).symm hD
                  subst hp53
                  refine lv_ior hx hb dX4_hangingBy_56 (ti (y := (nI ((hgr (r 0) (r 1) set k (hgn (r 0) (r 1) set (a 3) q (2 ^ a 1))) ||| (edg (r 0) (r 1) k)))) (qn_or _ _) ?_)
                  refine lv_istore_n (lv' := [(2, .int (nI ((hgr (r 0) (r 1) set k (hgn (r 0) (r 1) set (a 3) q (2 ^ a 1))) ||| (edg (r 0) (r 1) k)))), (0, .ref (ad 0)), (1, .int (nI set)), (3, .int (nI (q + 1))), (4, .int (nI k))]) hx hb dX4_hangingBy_57 rfl hl (by decide) rfl (fun ls hl => ?_)
                  refine lv_iinc (v := (nI (k + 1))) (lv' := [(4, .int (nI (k + 1))), (2, .int (nI ((hgr (r 0) (r 1) set k (hgn (r 0) (r 1) set (a 3) q (2 ^ a 1))) ||| (edg (r 0) (r 1) k)))), (0, .ref (ad 0)), (1, .int (nI set)), (3, .int (nI (q + 1)))]) hx hb dX4_hangingBy_58 hl (k := 4) rfl (qn_inc _) (by decide) rfl (fun ls hl => ?_)
                  refine lv_goto (tgt := 20) hx hb dX4_hangingBy_61 (by decide) ?_
                  exact ih20 (k + 1) ((hgr (r 0) (r 1) set k (hgn (r 0) (r 1) set (a 3) q (2 ^ a 1))) ||| (edg (r 0) (r 1) k)) (by omega) (by first | (rw [hgr, if_pos ⟨c35, c46⟩]; done) | (rw [hgr, if_neg (fun h => h.2 c46)]; done) | (rw [hgr, if_neg (fun h => by rw [c35] at h; exact absurd h.1 (by decide))]; done)) (by omega) _ _ hP hD hS ls (lv_sub hl [2, 3, 1, 4, 0] rfl)
        exact lp20 _ 0 (hgn (r 0) (r 1) set (a 3) q (2 ^ a 1)) (Nat.lt_succ_self _) rfl (Nat.zero_le _) _ _ hP hD hS ls (lv_sub hl [1, 2, 3, 4, 0] rfl)
  exact lp9 _ 0 (2 ^ (a 1)) (Nat.lt_succ_self _) rfl (by omega) _ _ hP hD hS ls (lv_sub hl [2, 3, 1, 0] rfl)

/-- the members that don't come to the source by these links without that one -/
def mof (f g : Nat → Nat) (n src L mem set k : Nat) : Nat := nd mem (hgn f g (nd set (2 ^ k)) L (n - 1) (2 ^ src))

theorem hdX4_membersOff : hdOK yX4_membersOff 2 := by decide +kernel
set_option maxHeartbeats 4000000 in
set_option maxRecDepth 100000 in
theorem mX4_membersOff (l : Launch) (G : GG) (ad : Nat → Nat) (a : Nat → Nat) (r : Nat → Nat → Nat) (set k : Nat) (hT : TB a r) (hs : set < 4096) (hk : k < 31) : Mi l yX4_membersOff cX4_membersOff 3 (some .int) (rmN 2 45) G [.ref (ad 0), .int (nI set), .int (nI k)] (tkw G ad a r) (fun (r9 : Int32) (_ : Unit) => r9 = (nI (mof (r 0) (r 1) (a 0) (a 1) (a 3) (a 7) set k))) (fun (_ : Unit) => tkw G ad a r) := by
  refine Mi.of (cc := cX4_membersOff) (nL := 3) (by decide) (Nat.le_of_ble_eq_true rfl) ?_
  intro p e s m below meth c A ls F hr hlocks hnm hX hA hD hP hS hl
  have F : CallFix p m c cX4_membersOff 3 s [.ref (ad 0), .int (nI set), .int (nI k)].toArray wA RX4 := F
  obtain ⟨hx, hb, hml, hown, hts⟩ := id F
  have hl : lv_has ls 3 [(0, .ref (ad 0)), (1, .int (nI set)), (2, .int (nI k))] := hl
  obtain ⟨t0, t1, t2, t3, t4, t5, t6, t7, t8, t9, t10, t11, t12⟩ := id hT
  refine lv_aload_n hx hb dX4_membersOff_0 rfl (lv_at hl 0 rfl) ?_
  refine va_get (D := G.1) (ci := 3) (v := .int (nI (a 7))) (C := RX4) (T := TX4) (N := 12) hx hb hts inA4 hown hX.1 hP 0 rfl rfl 7 (by decide) (hts _ kw_94) (fun _ h9 => h9) rfl dX4_membersOff_1 ?_
  refine lv_aload_n hx hb dX4_membersOff_4 rfl (lv_at hl 0 rfl) ?_
  refine lv_iload_n hx hb dX4_membersOff_5 rfl (lv_at hl 1 rfl) ?_
  refine lv_iconst (v := (nI 1)) hx hb dX4_membersOff_6 (by decide) ?_
  refine lv_iload_n hx hb dX4_membersOff_7 rfl (lv_at hl 2 rfl) ?_
  refine lv_ishl hx hb dX4_membersOff_8 (ti (y := (nI (2 ^ k))) (qn_sh1 (by omega)) ?_)
  refine lv_iconst (v := (-1)) hx hb dX4_membersOff_9 (by decide) ?_
  refine lv_ixor hx hb dX4_membersOff_10 ?_
  refine lv_iand hx hb dX4_membersOff_11 (ti (y := (nI (nd set (2 ^ k)))) (qn_andn _ _) ?_)
  refine ca_Vi (ci := 3) (q := (RX4, TX4, 12)) (rest := [.int (nI (a 7))]) (wr := ([] : va_W)) F hX (mX4_hangingBy l G ad a r (nd set (2 ^ k)) hT (by have := nd_le set (2 ^ k); omega)) (cA_V hts kw_533 kw_3 kw_569 kw_531 kw_532 hdX4_hangingBy ⟨Nat.le_of_ble_eq_true rfl, Nat.le_of_ble_eq_true rfl⟩) rfl rfl rfl hl.1 rfl (Nat.le_of_ble_eq_true rfl) dX4_membersOff_12 ⟨Nat.le_of_ble_eq_true rfl, Nat.le_of_ble_eq_true rfl⟩ hP hD hS hA (pm_nil _) (fun r12 u12 H locs hp12 hP hD hS => ?_)
  have hP : va_P G.1 vwCl (tkw G ad a r) H := wp_pm (pm_nil _).symm hP
  have hD : va_D A (tkw G ad a r) := wd_pm (pm_nil _).symm hD
  subst hp12
  refine lv_iconst (v := (-1)) hx hb dX4_membersOff_15 (by decide) ?_
  refine lv_ixor hx hb dX4_membersOff_16 ?_
  refine lv_iand hx hb dX4_membersOff_17 (ti (y := (nI (nd (a 7) (hgn (r 0) (r 1) (nd set (2 ^ k)) (a 3) ((a 0) - 1) (2 ^ (a 1)))))) (qn_andn _ _) ?_)
  exact re_i (v := (nI (nd (a 7) (hgn (r 0) (r 1) (nd set (2 ^ k)) (a 3) ((a 0) - 1) (2 ^ (a 1)))))) hx hb hr hlocks hS () hP hD rfl dX4_membersOff_18

def ldN (f g : Nat → Nat) (n src L mem tree k : Nat) : Nat := if tree.testBit k then bts (mof f g n src L mem tree k) 12 else 0
theorem mof_le (f g : Nat → Nat) (n src L mem set k : Nat) : mof f g n src L mem set k ≤ mem := nd_le _ _
theorem ldN_le (f g : Nat → Nat) (n src L mem tree k : Nat) : ldN f g n src L mem tree k ≤ 12 := by
  unfold ldN
  split
  · exact bts_le _ _
  · omega

theorem hdX4_load : hdOK yX4_load 1 := by decide +kernel
set_option maxHeartbeats 4000000 in
set_option maxRecDepth 100000 in
theorem mX4_load (l : Launch) (G : GG) (ad : Nat → Nat) (a : Nat → Nat) (r : Nat → Nat → Nat) (k : Nat) (hT : TB a r) (hk : k < 31) : Mi l yX4_load cX4_load 2 (some .int) (rmN 3 67) G [.ref (ad 0), .int (nI k)] (tkw G ad a r) (fun (r9 : Int32) (_ : Unit) => r9 = (nI (ldN (r 0) (r 1) (a 0) (a 1) (a 3) (a 7) (a 8) k))) (fun (_ : Unit) => tkw G ad a r) := by
  refine Mi.of (cc := cX4_load) (nL := 2) (by decide) (Nat.le_of_ble_eq_true rfl) ?_
  intro p e s m below meth c A ls F hr hlocks hnm hX hA hD hP hS hl
  have F : CallFix p m c cX4_load 2 s [.ref (ad 0), .int (nI k)].toArray wA RX4 := F
  obtain ⟨hx, hb, hml, hown, hts⟩ := id F
  have hl : lv_has ls 2 [(0, .ref (ad 0)), (1, .int (nI k))] := hl
  obtain ⟨t0, t1, t2, t3, t4, t5, t6, t7, t8, t9, t10, t11, t12⟩ := id hT
  refine lv_aload_n hx hb dX4_load_0 rfl (lv_at hl 0 rfl) ?_
  refine va_get (D := G.1) (ci := 3) (v := .int (nI (a 8))) (C := RX4) (T := TX4) (N := 12) hx hb hts inA4 hown hX.1 hP 0 rfl rfl 8 (by decide) (hts _ kw_98) (fun _ h9 => h9) rfl dX4_load_1 ?_
  refine lv_iload_n hx hb dX4_load_4 rfl (lv_at hl 1 rfl) ?_
  refine ca_Ni (rest := []) (wr := tkw G ad a r) F hX (mX7_has l G (a 8) k (by omega) (by omega)) ⟨cA_N hts kw_357 kw_1 hX.2.2.2.2.2.2.2.2.2.2.1 hdX7_has ⟨Nat.le_of_ble_eq_true rfl, Nat.le_of_ble_eq_true rfl⟩, hts _ kw_356, trivial⟩ rfl hl.1 rfl (Nat.le_of_ble_eq_true rfl) dX4_load_5 ⟨Nat.le_of_ble_eq_true rfl, Nat.le_of_ble_eq_true rfl⟩ hP hD hS hA (List.Perm.refl _) (fun r5 u5 H locs hp5 hP hD hS => ?_)
  have hP : va_P G.1 vwCl (tkw G ad a r) H := hP
  have hD : va_D A (tkw G ad a r) := hD
  subst hp5
  refine bv_eq (b := (a 8).testBit k) (tgt := 26) hx hb dX4_load_8 (by decide) (fun c8 => ?_) (fun c8 => ?_)
  · refine lv_iconst (v := (nI 0)) hx hb dX4_load_26 (by decide) ?_
    exact re_i (v := (nI 0)) hx hb hr hlocks hS () hP hD (by simp [ldN, c8]) dX4_load_27
  · refine lv_aload_n hx hb dX4_load_11 rfl (lv_at hl 0 rfl) ?_
    refine lv_aload_n hx hb dX4_load_12 rfl (lv_at hl 0 rfl) ?_
    refine va_get (D := G.1) (ci := 3) (v := .int (nI (a 8))) (C := RX4) (T := TX4) (N := 12) hx hb hts inA4 hown hX.1 hP 0 rfl rfl 8 (by decide) (hts _ kw_98) (fun _ h9 => h9) rfl dX4_load_13 ?_
    refine lv_iload_n hx hb dX4_load_16 rfl (lv_at hl 1 rfl) ?_
    refine ca_Vi (ci := 3) (q := (RX4, TX4, 12)) (rest := []) (wr := ([] : va_W)) F hX (mX4_membersOff l G ad a r (a 8) k hT (by omega) (by omega)) (cA_V hts kw_568 kw_3 kw_565 kw_566 kw_567 hdX4_membersOff ⟨Nat.le_of_ble_eq_true rfl, Nat.le_of_ble_eq_true rfl⟩) rfl rfl rfl hl.1 rfl (Nat.le_of_ble_eq_true rfl) dX4_load_17 ⟨Nat.le_of_ble_eq_true rfl, Nat.le_of_ble_eq_true rfl⟩ hP hD hS hA (pm_nil _) (fun r17 u17 H locs hp17 hP hD hS => ?_)
    have hP : va_P G.1 vwCl (tkw G ad a r) H := wp_pm (pm_nil _).symm hP
    have hD : va_D A (tkw G ad a r) := wd_pm (pm_nil _).symm hD
    subst hp17
    refine ca_Si (rest := []) (wr := tkw G ad a r) F hX (mJ6_bitCount_0f7a4 l G (mof (r 0) (r 1) (a 0) (a 1) (a 3) (a 7) (a 8) k) (by have := mof_le (r 0) (r 1) (a 0) (a 1) (a 3) (a 7) (a 8) k; omega)) (cA_S hts kw_503 kw_16 kw_501 kw_502 hdJ6_bitCount_0f7a4 ⟨Nat.le_of_ble_eq_true rfl, Nat.le_of_ble_eq_true rfl⟩) rfl hl.1 rfl (Nat.le_of_ble_eq_true rfl) dX4_load_20 ⟨Nat.le_of_ble_eq_true rfl, Nat.le_of_ble_eq_true rfl⟩ hP hD hS hA (List.Perm.refl _) (fun r20 u20 H locs hp20 hP hD hS => ?_)
    have hP : va_P G.1 vwCl (tkw G ad a r) H := hP
    have hD : va_D A (tkw G ad a r) := hD
    subst hp20
    refine lv_goto (tgt := 27) hx hb dX4_load_23 (by decide) ?_
    exact re_i (v := (nI (bts (mof (r 0) (r 1) (a 0) (a 1) (a 3) (a 7) (a 8) k) 12))) hx hb hr hlocks hS () hP hD (by simp [ldN, c8]) dX4_load_27

/-- the busiest link of the first k, and its load plus 1 -/
def bsN (ld : Nat → Nat) (tree : Nat) : Nat → Option Nat × Nat
  | 0 => (none, 0)
  | k + 1 => if tree.testBit k = true ∧ (bsN ld tree k).2 ≤ ld k then (some k, ld k + 1) else bsN ld tree k
theorem bsN_le {ld : Nat → Nat} (h : ∀ k, ld k ≤ 12) (tree : Nat) : ∀ k, (bsN ld tree k).2 ≤ 13
  | 0 => by simp [bsN]
  | k + 1 => by
    have h1 := bsN_le h tree k
    have h2 := h k
    unfold bsN
    split
    · show ld k + 1 ≤ 13; omega
    · exact h1
/-- a number less 1, as an int -/
def mI (n : Nat) : Int32 := nI n - 1
theorem mI_le {a b : Nat} (ha : a < 1000) (hb : b < 1000) : nI a ≤ mI b ↔ a < b := by
  cases b with
  | zero =>
    have e : mI 0 = -1 := by decide
    rw [e, Int32.le_iff_toInt_le, nI_toInt (by omega)]
    have : (-1 : Int32).toInt = -1 := by decide
    rw [this]; omega
  | succ b =>
    have e : mI (b + 1) = nI b := nI_pred b
    rw [e, nI_leI (by omega) (by omega)]; omega
end
section
theorem hdX4_busiest : hdOK yX4_busiest 0 := by decide +kernel
set_option maxHeartbeats 4000000 in
set_option maxRecDepth 100000 in
theorem mX4_busiest (l : Launch) (G : GG) (ad : Nat → Nat) (a : Nat → Nat) (r : Nat → Nat → Nat) (hT : TB a r) : Mi l yX4_busiest cX4_busiest 4 (some .int) (rmN 4 88) G [.ref (ad 0)] (tkw G ad a r) (fun (r9 : Int32) (_ : Unit) => r9 = (oN ((bsN (ldN (r 0) (r 1) (a 0) (a 1) (a 3) (a 7) (a 8)) (a 8) (a 3)).1))) (fun (_ : Unit) => tkw G ad a r) := by
  refine Mi.of (cc := cX4_busiest) (nL := 4) (by decide) (Nat.le_of_ble_eq_true rfl) ?_
  intro p e s m below meth c A ls F hr hlocks hnm hX hA hD hP hS hl
  have F : CallFix p m c cX4_busiest 4 s [.ref (ad 0)].toArray wA RX4 := F
  obtain ⟨hx, hb, hml, hown, hts⟩ := id F
  have hl : lv_has ls 4 [(0, .ref (ad 0))] := hl
  obtain ⟨t0, t1, t2, t3, t4, t5, t6, t7, t8, t9, t10, t11, t12⟩ := id hT
  refine lv_bipush (v := (-9)) hx hb dX4_busiest_0 (by decide) ?_
  refine lv_istore_n (lv' := [(1, .int (-9)), (0, .ref (ad 0))]) hx hb dX4_busiest_2 rfl hl (by decide) rfl (fun ls hl => ?_)
  refine lv_iconst (v := (-1)) hx hb dX4_busiest_3 (by decide) ?_
  refine lv_istore_n (lv' := [(2, .int (-1)), (1, .int (-9)), (0, .ref (ad 0))]) hx hb dX4_busiest_4 rfl hl (by decide) rfl (fun ls hl => ?_)
  refine lv_iconst (v := (nI 0)) hx hb dX4_busiest_5 (by decide) ?_
  refine lv_istore_n (lv' := [(3, .int (nI 0)), (2, .int (-1)), (1, .int (-9)), (0, .ref (ad 0))]) hx hb dX4_busiest_6 rfl hl (by decide) rfl (fun ls hl => ?_)
  have lp7 : ∀ (n7 : Nat) (k : Nat) (b1 : Int32) (b2 : Int32), (a 3 - k) < n7 → b1 = oN (bsN (ldN (r 0) (r 1) (a 0) (a 1) (a 3) (a 7) (a 8)) (a 8) k).1 → b2 = mI (bsN (ldN (r 0) (r 1) (a 0) (a 1) (a 3) (a 7) (a 8)) (a 8) k).2 → (k ≤ a 3) → ∀ (H : Heap) (locs : List Loc), va_P G.1 vwCl (tkw G ad a r) H → va_D A (tkw G ad a r) → va_S A s.heap H locs → ∀ (ls : Array Slot), lv_has ls 4 [(0, .ref (ad 0)), (1, .int b1), (2, .int b2), (3, .int (nI k))] → WI p l e (rmN 4 88) s m [.ref (ad 0)] below meth c H locs G A (fun (r9 : Int32) (_ : Unit) => r9 = (oN ((bsN (ldN (r 0) (r 1) (a 0) (a 1) (a 3) (a 7) (a 8)) (a 8) (a 3)).1))) (fun (_ : Unit) => tkw G ad a r) (F0 m 7 ls []) := by
    intro n7
    induction n7 with
    | zero => intro k b1 b2 h9; exact absurd h9 (Nat.not_lt_zero _)
    | succ n7 ih7 =>
      intro k b1 b2 hm7 e_b1 e_b2 hk H locs hP hD hS ls hl
      subst e_b1
      subst e_b2
      refine lv_iload_n hx hb dX4_busiest_7 rfl (lv_at hl 3 rfl) ?_
      refine lv_aload_n hx hb dX4_busiest_8 rfl (lv_at hl 0 rfl) ?_
      refine va_get (D := G.1) (ci := 3) (v := .int (nI (a 3))) (C := RX4) (T := TX4) (N := 12) hx hb hts inA4 hown hX.1 hP 0 rfl rfl 3 (by decide) (hts _ kw_76) (fun _ h9 => h9) rfl dX4_busiest_9 ?_
      refine nv_ge (x := k) (y := a 3) (tgt := 49) hx hb dX4_busiest_12 (by decide) (by omega) (by omega) (fun c12 => ?_) (fun c12 => ?_)
      · refine lv_iload_n hx hb dX4_busiest_49 rfl (lv_at hl 1 rfl) ?_
        exact re_i (v := (oN (bsN (ldN (r 0) (r 1) (a 0) (a 1) (a 3) (a 7) (a 8)) (a 8) k).1)) hx hb hr hlocks hS () hP hD (by have e9 : k = a 3 := (by omega); rw [e9]) dX4_busiest_50
      · refine lv_aload_n hx hb dX4_busiest_15 rfl (lv_at hl 0 rfl) ?_
        refine va_get (D := G.1) (ci := 3) (v := .int (nI (a 8))) (C := RX4) (T := TX4) (N := 12) hx hb hts inA4 hown hX.1 hP 0 rfl rfl 8 (by decide) (hts _ kw_98) (fun _ h9 => h9) rfl dX4_busiest_16 ?_
        refine lv_iload_n hx hb dX4_busiest_19 rfl (lv_at hl 3 rfl) ?_
        refine ca_Ni (rest := []) (wr := tkw G ad a r) F hX (mX7_has l G (a 8) k (by omega) (by omega)) ⟨cA_N hts kw_357 kw_1 hX.2.2.2.2.2.2.2.2.2.2.1 hdX7_has ⟨Nat.le_of_ble_eq_true rfl, Nat.le_of_ble_eq_true rfl⟩, hts _ kw_356, trivial⟩ rfl hl.1 rfl (Nat.le_of_ble_eq_true rfl) dX4_busiest_20 ⟨Nat.le_of_ble_eq_true rfl, Nat.le_of_ble_eq_true rfl⟩ hP hD hS hA (List.Perm.refl _) (fun r20 u20 H locs hp20 hP hD hS => ?_)
        have hP : va_P G.1 vwCl (tkw G ad a r) H := hP
        have hD : va_D A (tkw G ad a r) := hD
        subst hp20
        refine bv_eq (b := (a 8).testBit k) (tgt := 43) hx hb dX4_busiest_23 (by decide) (fun c23 => ?_) (fun c23 => ?_)
        · refine lv_iinc (v := (nI (k + 1))) (lv' := [(3, .int (nI (k + 1))), (0, .ref (ad 0)), (1, .int (oN (bsN (ldN (r 0) (r 1) (a 0) (a 1) (a 3) (a 7) (a 8)) (a 8) k).1)), (2, .int (mI (bsN (ldN (r 0) (r 1) (a 0) (a 1) (a 3) (a 7) (a 8)) (a 8) k).2))]) hx hb dX4_busiest_43 hl (k := 3) rfl (qn_inc _) (by decide) rfl (fun ls hl => ?_)
          refine lv_goto (tgt := 7) hx hb dX4_busiest_46 (by decide) ?_
          exact ih7 (k + 1) (oN (bsN (ldN (r 0) (r 1) (a 0) (a 1) (a 3) (a 7) (a 8)) (a 8) k).1) (mI (bsN (ldN (r 0) (r 1) (a 0) (a 1) (a 3) (a 7) (a 8)) (a 8) k).2) (by omega) (by first | (rw [bsN, if_pos ⟨c23, Nat.not_lt.mp (fun h => c32 ((mI_le (by have := ldN_le (r 0) (r 1) (a 0) (a 1) (a 3) (a 7) (a 8) k; omega) (by have := bsN_le (fun k => ldN_le (r 0) (r 1) (a 0) (a 1) (a 3) (a 7) (a 8) k) (a 8) k; omega)).mpr h))⟩] <;> rfl) | (rw [bsN, if_neg (fun h => absurd ((mI_le (by have := ldN_le (r 0) (r 1) (a 0) (a 1) (a 3) (a 7) (a 8) k; omega) (by have := bsN_le (fun k => ldN_le (r 0) (r 1) (a 0) (a 1) (a 3) (a 7) (a 8) k) (a 8) k; omega)).mp c32) (Nat.not_lt.mpr h.2))] <;> rfl) | (rw [bsN, if_neg (fun h => by rw [c23] at h; exact absurd h.1 (by decide))] <;> rfl)) (by first | (rw [bsN, if_pos ⟨c23, Nat.not_lt.mp (fun h => c32 ((mI_le (by have := ldN_le (r 0) (r 1) (a 0) (a 1) (a 3) (a 7) (a 8) k; omega) (by have := bsN_le (fun k => ldN_le (r 0) (r 1) (a 0) (a 1) (a 3) (a 7) (a 8) k) (a 8) k; omega)).mpr h))⟩] <;> exact (nI_pred _).symm) | (rw [bsN, if_neg (fun h => absurd ((mI_le (by have := ldN_le (r 0) (r 1) (a 0) (a 1) (a 3) (a 7) (a 8) k; omega) (by have := bsN_le (fun k => ldN_le (r 0) (r 1) (a 0) (a 1) (a 3) (a 7) (a 8) k) (a 8) k; omega)).mp c32) (Nat.not_lt.mpr h.2))] <;> rfl) | (rw [bsN, if_neg (fun h => by rw [c23] at h; exact absurd h.1 (by decide))] <;> rfl)) (by omega) _ _ hP hD hS ls (lv_sub hl [1, 2, 3, 0] rfl)
        · refine lv_aload_n hx hb dX4_busiest_26 rfl (lv_at hl 0 rfl) ?_
          refine lv_iload_n hx hb dX4_busiest_27 rfl (lv_at hl 3 rfl) ?_
          refine ca_Vi (ci := 3) (q := (RX4, TX4, 12)) (rest := []) (wr := ([] : va_W)) F hX (mX4_load l G ad a r k hT (by omega)) (cA_V hts kw_564 kw_3 kw_620 kw_562 kw_563 hdX4_load ⟨Nat.le_of_ble_eq_true rfl, Nat.le_of_ble_eq_true rfl⟩) rfl rfl rfl hl.1 rfl (Nat.le_of_ble_eq_true rfl) dX4_busiest_28 ⟨Nat.le_of_ble_eq_true rfl, Nat.le_of_ble_eq_true rfl⟩ hP hD hS hA (pm_nil _) (fun r28 u28 H locs hp28 hP hD hS => ?_)
          have hP : va_P G.1 vwCl (tkw G ad a r) H := wp_pm (pm_nil _).symm hP
          have hD : va_D A (tkw G ad a r) := wd_pm (pm_nil _).symm hD
          subst hp28
          refine lv_iload_n hx hb dX4_busiest_31 rfl (lv_at hl 2 rfl) ?_
          refine lv_icmp_le (x := (nI (ldN (r 0) (r 1) (a 0) (a 1) (a 3) (a 7) (a 8) k))) (y := (mI (bsN (ldN (r 0) (r 1) (a 0) (a 1) (a 3) (a 7) (a 8)) (a 8) k).2)) (tgt := 43) hx hb dX4_busiest_32 (by decide) (fun c32 => ?_) (fun c32 => ?_)
          · refine lv_iinc (v := (nI (k + 1))) (lv' := [(3, .int (nI (k + 1))), (0, .ref (ad 0)), (1, .int (oN (bsN (ldN (r 0) (r 1) (a 0) (a 1) (a 3) (a 7) (a 8)) (a 8) k).1)), (2, .int (mI (bsN (ldN (r 0) (r 1) (a 0) (a 1) (a 3) (a 7) (a 8)) (a 8) k).2))]) hx hb dX4_busiest_43 hl (k := 3) rfl (qn_inc _) (by decide) rfl (fun ls hl => ?_)
            refine lv_goto (tgt := 7) hx hb dX4_busiest_46 (by decide) ?_
            exact ih7 (k + 1) (oN (bsN (ldN (r 0) (r 1) (a 0) (a 1) (a 3) (a 7) (a 8)) (a 8) k).1) (mI (bsN (ldN (r 0) (r 1) (a 0) (a 1) (a 3) (a 7) (a 8)) (a 8) k).2) (by omega) (by first | (rw [bsN, if_pos ⟨c23, Nat.not_lt.mp (fun h => c32 ((mI_le (by have := ldN_le (r 0) (r 1) (a 0) (a 1) (a 3) (a 7) (a 8) k; omega) (by have := bsN_le (fun k => ldN_le (r 0) (r 1) (a 0) (a 1) (a 3) (a 7) (a 8) k) (a 8) k; omega)).mpr h))⟩] <;> rfl) | (rw [bsN, if_neg (fun h => absurd ((mI_le (by have := ldN_le (r 0) (r 1) (a 0) (a 1) (a 3) (a 7) (a 8) k; omega) (by have := bsN_le (fun k => ldN_le (r 0) (r 1) (a 0) (a 1) (a 3) (a 7) (a 8) k) (a 8) k; omega)).mp c32) (Nat.not_lt.mpr h.2))] <;> rfl) | (rw [bsN, if_neg (fun h => by rw [c23] at h; exact absurd h.1 (by decide))] <;> rfl)) (by first | (rw [bsN, if_pos ⟨c23, Nat.not_lt.mp (fun h => c32 ((mI_le (by have := ldN_le (r 0) (r 1) (a 0) (a 1) (a 3) (a 7) (a 8) k; omega) (by have := bsN_le (fun k => ldN_le (r 0) (r 1) (a 0) (a 1) (a 3) (a 7) (a 8) k) (a 8) k; omega)).mpr h))⟩] <;> exact (nI_pred _).symm) | (rw [bsN, if_neg (fun h => absurd ((mI_le (by have := ldN_le (r 0) (r 1) (a 0) (a 1) (a 3) (a 7) (a 8) k; omega) (by have := bsN_le (fun k => ldN_le (r 0) (r 1) (a 0) (a 1) (a 3) (a 7) (a 8) k) (a 8) k; omega)).mp c32) (Nat.not_lt.mpr h.2))] <;> rfl) | (rw [bsN, if_neg (fun h => by rw [c23] at h; exact absurd h.1 (by decide))] <;> rfl)) (by omega) _ _ hP hD hS ls (lv_sub hl [1, 2, 3, 0] rfl)
          · refine lv_iload_n hx hb dX4_busiest_35 rfl (lv_at hl 3 rfl) ?_
            refine lv_istore_n (lv' := [(1, .int (nI k)), (0, .ref (ad 0)), (2, .int (mI (bsN (ldN (r 0) (r 1) (a 0) (a 1) (a 3) (a 7) (a 8)) (a 8) k).2)), (3, .int (nI k))]) hx hb dX4_busiest_36 rfl hl (by decide) rfl (fun ls hl => ?_)
            refine lv_aload_n hx hb dX4_busiest_37 rfl (lv_at hl 1 rfl) ?_
            refine lv_iload_n hx hb dX4_busiest_38 rfl (lv_at hl 3 rfl) ?_
            refine ca_Vi (ci := 3) (q := (RX4, TX4, 12)) (rest := []) (wr := ([] : va_W)) F hX (mX4_load l G ad a r k hT (by omega)) (cA_V hts kw_564 kw_3 kw_620 kw_562 kw_563 hdX4_load ⟨Nat.le_of_ble_eq_true rfl, Nat.le_of_ble_eq_true rfl⟩) rfl rfl rfl hl.1 rfl (Nat.le_of_ble_eq_true rfl) dX4_busiest_39 ⟨Nat.le_of_ble_eq_true rfl, Nat.le_of_ble_eq_true rfl⟩ hP hD hS hA (pm_nil _) (fun r39 u39 H locs hp39 hP hD hS => ?_)
            have hP : va_P G.1 vwCl (tkw G ad a r) H := wp_pm (pm_nil _).symm hP
            have hD : va_D A (tkw G ad a r) := wd_pm (pm_nil _).symm hD
            subst hp39
            refine lv_istore_n (lv' := [(2, .int (nI (ldN (r 0) (r 1) (a 0) (a 1) (a 3) (a 7) (a 8) k))), (1, .int (nI k)), (0, .ref (ad 0)), (3, .int (nI k))]) hx hb dX4_busiest_42 rfl hl (by decide) rfl (fun ls hl => ?_)
            refine lv_iinc (v := (nI (k + 1))) (lv' := [(3, .int (nI (k + 1))), (2, .int (nI (ldN (r 0) (r 1) (a 0) (a 1) (a 3) (a 7) (a 8) k))), (1, .int (nI k)), (0, .ref (ad 0))]) hx hb dX4_busiest_43 hl (k := 3) rfl (qn_inc _) (by decide) rfl (fun ls hl => ?_)
            refine lv_goto (tgt := 7) hx hb dX4_busiest_46 (by decide) ?_
            exact ih7 (k + 1) (nI k) (nI (ldN (r 0) (r 1) (a 0) (a 1) (a 3) (a 7) (a 8) k)) (by omega) (by first | (rw [bsN, if_pos ⟨c23, Nat.not_lt.mp (fun h => c32 ((mI_le (by have := ldN_le (r 0) (r 1) (a 0) (a 1) (a 3) (a 7) (a 8) k; omega) (by have := bsN_le (fun k => ldN_le (r 0) (r 1) (a 0) (a 1) (a 3) (a 7) (a 8) k) (a 8) k; omega)).mpr h))⟩] <;> rfl) | (rw [bsN, if_neg (fun h => absurd ((mI_le (by have := ldN_le (r 0) (r 1) (a 0) (a 1) (a 3) (a 7) (a 8) k; omega) (by have := bsN_le (fun k => ldN_le (r 0) (r 1) (a 0) (a 1) (a 3) (a 7) (a 8) k) (a 8) k; omega)).mp c32) (Nat.not_lt.mpr h.2))] <;> rfl) | (rw [bsN, if_neg (fun h => by rw [c23] at h; exact absurd h.1 (by decide))] <;> rfl)) (by first | (rw [bsN, if_pos ⟨c23, Nat.not_lt.mp (fun h => c32 ((mI_le (by have := ldN_le (r 0) (r 1) (a 0) (a 1) (a 3) (a 7) (a 8) k; omega) (by have := bsN_le (fun k => ldN_le (r 0) (r 1) (a 0) (a 1) (a 3) (a 7) (a 8) k) (a 8) k; omega)).mpr h))⟩] <;> exact (nI_pred _).symm) | (rw [bsN, if_neg (fun h => absurd ((mI_le (by have := ldN_le (r 0) (r 1) (a 0) (a 1) (a 3) (a 7) (a 8) k; omega) (by have := bsN_le (fun k => ldN_le (r 0) (r 1) (a 0) (a 1) (a 3) (a 7) (a 8) k) (a 8) k; omega)).mp c32) (Nat.not_lt.mpr h.2))] <;> rfl) | (rw [bsN, if_neg (fun h => by rw [c23] at h; exact absurd h.1 (by decide))] <;> rfl)) (by omega) _ _ hP hD hS ls (lv_sub hl [3, 2, 1, 0] rfl)
  exact lp7 _ 0 (-9) (-1) (Nat.lt_succ_self _) rfl rfl (Nat.zero_le _) _ _ hP hD hS ls (lv_sub hl [3, 2, 1, 0] rfl)

/-- the links of the tree without which, of those that are up, somebody is lost -/
def neN (f g : Nat → Nat) (n src L mem tree up : Nat) : Nat → Nat
  | 0 => 0
  | k + 1 => if tree.testBit k = true ∧ mof f g n src L mem up k ≠ 0 then neN f g n src L mem tree up k ||| 2 ^ k else neN f g n src L mem tree up k

theorem hdX4_needed : hdOK yX4_needed 0 := by decide +kernel
set_option maxHeartbeats 4000000 in
set_option maxRecDepth 100000 in
theorem mX4_needed (l : Launch) (G : GG) (ad : Nat → Nat) (a : Nat → Nat) (r : Nat → Nat → Nat) (hT : TB a r) : Mi l yX4_needed cX4_needed 3 (some .int) (rmN 3 67) G [.ref (ad 0)] (tkw G ad a r) (fun (r9 : Int32) (_ : Unit) => r9 = (nI (neN (r 0) (r 1) (a 0) (a 1) (a 3) (a 7) (a 8) (nd (2 ^ a 3 - 1) (a 9)) (a 3)))) (fun (_ : Unit) => tkw G ad a r) := by
  refine Mi.of (cc := cX4_needed) (nL := 3) (by decide) (Nat.le_of_ble_eq_true rfl) ?_
  intro p e s m below meth c A ls F hr hlocks hnm hX hA hD hP hS hl
  have F : CallFix p m c cX4_needed 3 s [.ref (ad 0)].toArray wA RX4 := F
  obtain ⟨hx, hb, hml, hown, hts⟩ := id F
  have hl : lv_has ls 3 [(0, .ref (ad 0))] := hl
  obtain ⟨t0, t1, t2, t3, t4, t5, t6, t7, t8, t9, t10, t11, t12⟩ := id hT
  have hup : nd (2 ^ a 3 - 1) (a 9) < 4096 := by
    have h1 := nd_le (2 ^ a 3 - 1) (a 9)
    have h2 := pw12 t4
    have h3 := Nat.one_le_two_pow (n := a 3)
    omega
  refine lv_iconst (v := (nI 0)) hx hb dX4_needed_0 (by decide) ?_
  refine lv_istore_n (lv' := [(1, .int (nI 0)), (0, .ref (ad 0))]) hx hb dX4_needed_1 rfl hl (by decide) rfl (fun ls hl => ?_)
  refine lv_iconst (v := (nI 0)) hx hb dX4_needed_2 (by decide) ?_
  refine lv_istore_n (lv' := [(2, .int (nI 0)), (1, .int (nI 0)), (0, .ref (ad 0))]) hx hb dX4_needed_3 rfl hl (by decide) rfl (fun ls hl => ?_)
  have lp4 : ∀ (n4 : Nat) (k : Nat) (x : Nat), (a 3 - k) < n4 → x = neN (r 0) (r 1) (a 0) (a 1) (a 3) (a 7) (a 8) (nd (2 ^ a 3 - 1) (a 9)) k → (k ≤ a 3) → ∀ (H : Heap) (locs : List Loc), va_P G.1 vwCl (tkw G ad a r) H → va_D A (tkw G ad a r) → va_S A s.heap H locs → ∀ (ls : Array Slot), lv_has ls 3 [(0, .ref (ad 0)), (1, .int (nI x)), (2, .int (nI k))] → WI p l e (rmN 3 67) s m [.ref (ad 0)] below meth c H locs G A (fun (r9 : Int32) (_ : Unit) => r9 = (nI (neN (r 0) (r 1) (a 0) (a 1) (a 3) (a 7) (a 8) (nd (2 ^ a 3 - 1) (a 9)) (a 3)))) (fun (_ : Unit) => tkw G ad a r) (F0 m 4 ls []) := by
    intro n4
    induction n4 with
    | zero => intro k x h9; exact absurd h9 (Nat.not_lt_zero _)
    | succ n4 ih4 =>
      intro k x hm4 e_x hk_k H locs hP hD hS ls hl
      subst e_x
      refine lv_iload_n hx hb dX4_needed_4 rfl (lv_at hl 2 rfl) ?_
      refine lv_aload_n hx hb dX4_needed_5 rfl (lv_at hl 0 rfl) ?_
      refine va_get (D := G.1) (ci := 3) (v := .int (nI (a 3))) (C := RX4) (T := TX4) (N := 12) hx hb hts inA4 hown hX.1 hP 0 rfl rfl 3 (by decide) (hts _ kw_76) (fun _ h9 => h9) rfl dX4_needed_6 ?_
      refine nv_ge (x := k) (y := a 3) (tgt := 47) hx hb dX4_needed_9 (by decide) (by omega) (by omega) (fun c9 => ?_) (fun c9 => ?_)
      · refine lv_iload_n hx hb dX4_needed_47 rfl (lv_at hl 1 rfl) ?_
        exact re_i (v := (nI (neN (r 0) (r 1) (a 0) (a 1) (a 3) (a 7) (a 8) (nd (2 ^ a 3 - 1) (a 9)) k))) hx hb hr hlocks hS () hP hD (by have e9 : k = a 3 := (by omega); rw [e9]) dX4_needed_48
      · refine lv_aload_n hx hb dX4_needed_12 rfl (lv_at hl 0 rfl) ?_
        refine va_get (D := G.1) (ci := 3) (v := .int (nI (a 8))) (C := RX4) (T := TX4) (N := 12) hx hb hts inA4 hown hX.1 hP 0 rfl rfl 8 (by decide) (hts _ kw_98) (fun _ h9 => h9) rfl dX4_needed_13 ?_
        refine lv_iload_n hx hb dX4_needed_16 rfl (lv_at hl 2 rfl) ?_
        refine ca_Ni (rest := []) (wr := tkw G ad a r) F hX (mX7_has l G (a 8) k (by omega) (by omega)) ⟨cA_N hts kw_357 kw_1 hX.2.2.2.2.2.2.2.2.2.2.1 hdX7_has ⟨Nat.le_of_ble_eq_true rfl, Nat.le_of_ble_eq_true rfl⟩, hts _ kw_356, trivial⟩ rfl hl.1 rfl (Nat.le_of_ble_eq_true rfl) dX4_needed_17 ⟨Nat.le_of_ble_eq_true rfl, Nat.le_of_ble_eq_true rfl⟩ hP hD hS hA (List.Perm.refl _) (fun r17 u17 H locs hp17 hP hD hS => ?_)
        have hP : va_P G.1 vwCl (tkw G ad a r) H := hP
        have hD : va_D A (tkw G ad a r) := hD
        subst hp17
        refine bv_eq (b := (a 8).testBit k) (tgt := 41) hx hb dX4_needed_20 (by decide) (fun c20 => ?_) (fun c20 => ?_)
        · refine lv_iinc (v := (nI (k + 1))) (lv' := [(2, .int (nI (k + 1))), (0, .ref (ad 0)), (1, .int (nI (neN (r 0) (r 1) (a 0) (a 1) (a 3) (a 7) (a 8) (nd (2 ^ a 3 - 1) (a 9)) k)))]) hx hb dX4_needed_41 hl (k := 2) rfl (qn_inc _) (by decide) rfl (fun ls hl => ?_)
          refine lv_goto (tgt := 4) hx hb dX4_needed_44 (by decide) ?_
          exact ih4 (k + 1) (neN (r 0) (r 1) (a 0) (a 1) (a 3) (a 7) (a 8) (nd (2 ^ a 3 - 1) (a 9)) k) (by omega) (by first | (rw [neN, if_pos ⟨c20, c32⟩]; done) | (rw [neN, if_neg (fun h => h.2 c32)]; done) | (rw [neN, if_neg (fun h => by rw [c20] at h; exact absurd h.1 (by decide))]; done)) (by omega) _ _ hP hD hS ls (lv_sub hl [1, 2, 0] rfl)
        · refine lv_aload_n hx hb dX4_needed_23 rfl (lv_at hl 0 rfl) ?_
          refine lv_aload_n hx hb dX4_needed_24 rfl (lv_at hl 0 rfl) ?_
          refine ca_Vi (ci := 3) (q := (RX4, TX4, 12)) (rest := [.ref (ad 0)]) (wr := ([] : va_W)) F hX (mX4_upLinks l G ad a r  hT) (cA_V hts kw_409 kw_3 kw_625 kw_407 kw_408 hdX4_upLinks ⟨Nat.le_of_ble_eq_true rfl, Nat.le_of_ble_eq_true rfl⟩) rfl rfl rfl hl.1 rfl (Nat.le_of_ble_eq_true rfl) dX4_needed_25 ⟨Nat.le_of_ble_eq_true rfl, Nat.le_of_ble_eq_true rfl⟩ hP hD hS hA (pm_nil _) (fun r25 u25 H locs hp25 hP hD hS => ?_)
          have hP : va_P G.1 vwCl (tkw G ad a r) H := wp_pm (pm_nil _).symm hP
          have hD : va_D A (tkw G ad a r) := wd_pm (pm_nil _).symm hD
          subst hp25
          refine lv_iload_n hx hb dX4_needed_28 rfl (lv_at hl 2 rfl) ?_
          refine ca_Vi (ci := 3) (q := (RX4, TX4, 12)) (rest := []) (wr := ([] : va_W)) F hX (mX4_membersOff l G ad a r (nd (2 ^ (a 3) - 1) (a 9)) k hT hup (by omega)) (cA_V hts kw_568 kw_3 kw_565 kw_566 kw_567 hdX4_membersOff ⟨Nat.le_of_ble_eq_true rfl, Nat.le_of_ble_eq_true rfl⟩) rfl rfl rfl hl.1 rfl (Nat.le_of_ble_eq_true rfl) dX4_needed_29 ⟨Nat.le_of_ble_eq_true rfl, Nat.le_of_ble_eq_true rfl⟩ hP hD hS hA (pm_nil _) (fun r29 u29 H locs hp29 hP hD hS => ?_)
          have hP : va_P G.1 vwCl (tkw G ad a r) H := wp_pm (pm_nil _).symm hP
          have hD : va_D A (tkw G ad a r) := wd_pm (pm_nil _).symm hD
          subst hp29
          refine nv_zeq (x := mof (r 0) (r 1) (a 0) (a 1) (a 3) (a 7) (nd (2 ^ (a 3) - 1) (a 9)) k) (tgt := 41) hx hb dX4_needed_32 (by decide) (by have := mof_le (r 0) (r 1) (a 0) (a 1) (a 3) (a 7) (nd (2 ^ a 3 - 1) (a 9)) k; omega) (fun c32 => ?_) (fun c32 => ?_)
          · refine lv_iinc (v := (nI (k + 1))) (lv' := [(2, .int (nI (k + 1))), (0, .ref (ad 0)), (1, .int (nI (neN (r 0) (r 1) (a 0) (a 1) (a 3) (a 7) (a 8) (nd (2 ^ a 3 - 1) (a 9)) k)))]) hx hb dX4_needed_41 hl (k := 2) rfl (qn_inc _) (by decide) rfl (fun ls hl => ?_)
            refine lv_goto (tgt := 4) hx hb dX4_needed_44 (by decide) ?_
            exact ih4 (k + 1) (neN (r 0) (r 1) (a 0) (a 1) (a 3) (a 7) (a 8) (nd (2 ^ a 3 - 1) (a 9)) k) (by omega) (by first | (rw [neN, if_pos ⟨c20, c32⟩]; done) | (rw [neN, if_neg (fun h => h.2 c32)]; done) | (rw [neN, if_neg (fun h => by rw [c20] at h; exact absurd h.1 (by decide))]; done)) (by omega) _ _ hP hD hS ls (lv_sub hl [1, 2, 0] rfl)
          · refine lv_iload_n hx hb dX4_needed_35 rfl (lv_at hl 1 rfl) ?_
            refine lv_iconst (v := (nI 1)) hx hb dX4_needed_36 (by decide) ?_
            refine lv_iload_n hx hb dX4_needed_37 rfl (lv_at hl 2 rfl) ?_
            refine lv_ishl hx hb dX4_needed_38 (ti (y := (nI (2 ^ k))) (qn_sh1 (by omega)) ?_)
            refine lv_ior hx hb dX4_needed_39 (ti (y := (nI ((neN (r 0) (r 1) (a 0) (a 1) (a 3) (a 7) (a 8) (nd (2 ^ a 3 - 1) (a 9)) k) ||| (2 ^ k)))) (qn_or _ _) ?_)
            refine lv_istore_n (lv' := [(1, .int (nI ((neN (r 0) (r 1) (a 0) (a 1) (a 3) (a 7) (a 8) (nd (2 ^ a 3 - 1) (a 9)) k) ||| (2 ^ k)))), (0, .ref (ad 0)), (2, .int (nI k))]) hx hb dX4_needed_40 rfl hl (by decide) rfl (fun ls hl => ?_)
            refine lv_iinc (v := (nI (k + 1))) (lv' := [(2, .int (nI (k + 1))), (1, .int (nI ((neN (r 0) (r 1) (a 0) (a 1) (a 3) (a 7) (a 8) (nd (2 ^ a 3 - 1) (a 9)) k) ||| (2 ^ k)))), (0, .ref (ad 0))]) hx hb dX4_needed_41 hl (k := 2) rfl (qn_inc _) (by decide) rfl (fun ls hl => ?_)
            refine lv_goto (tgt := 4) hx hb dX4_needed_44 (by decide) ?_
            exact ih4 (k + 1) ((neN (r 0) (r 1) (a 0) (a 1) (a 3) (a 7) (a 8) (nd (2 ^ a 3 - 1) (a 9)) k) ||| (2 ^ k)) (by omega) (by first | (rw [neN, if_pos ⟨c20, c32⟩]; done) | (rw [neN, if_neg (fun h => h.2 c32)]; done) | (rw [neN, if_neg (fun h => by rw [c20] at h; exact absurd h.1 (by decide))]; done)) (by omega) _ _ hP hD hS ls (lv_sub hl [2, 1, 0] rfl)
  exact lp4 _ 0 0 (Nat.lt_succ_self _) rfl (Nat.zero_le _) _ _ hP hD hS ls (lv_sub hl [2, 1, 0] rfl)

theorem hdX4_markOf : hdOK yX4_markOf 1 := by decide +kernel
set_option maxHeartbeats 4000000 in
set_option maxRecDepth 100000 in
theorem mX4_markOf (l : Launch) (G : GG) (ad : Nat → Nat) (a : Nat → Nat) (r : Nat → Nat → Nat) (v : Nat) (hT : TB a r) (hv : v < 2 ^ 31) : Mi l yX4_markOf cX4_markOf 3 (some .int) (rmN 0 0) G [.ref (ad 0), .int (nI v)] (tkw G ad a r) (fun (r9 : Int32) (_ : Unit) => r9 = (oN (mkF (r 3) v (a 10)))) (fun (_ : Unit) => tkw G ad a r) := by
  refine Mi.of (cc := cX4_markOf) (nL := 3) (by decide) (Nat.le_of_ble_eq_true rfl) ?_
  intro p e s m below meth c A ls F hr hlocks hnm hX hA hD hP hS hl
  have F : CallFix p m c cX4_markOf 3 s [.ref (ad 0), .int (nI v)].toArray wA RX4 := F
  obtain ⟨hx, hb, hml, hown, hts⟩ := id F
  have hl : lv_has ls 3 [(0, .ref (ad 0)), (1, .int (nI v))] := hl
  obtain ⟨t0, t1, t2, t3, t4, t5, t6, t7, t8, t9, t10, t11, t12⟩ := id hT
  refine lv_iconst (v := (nI 0)) hx hb dX4_markOf_0 (by decide) ?_
  refine lv_istore_n (lv' := [(2, .int (nI 0)), (0, .ref (ad 0)), (1, .int (nI v))]) hx hb dX4_markOf_1 rfl hl (by decide) rfl (fun ls hl => ?_)
  have lp2 : ∀ (n2 : Nat) (k : Nat), (a 10 - k) < n2 → (k ≤ a 10) → (mkF (r 3) v k = none) → ∀ (H : Heap) (locs : List Loc), va_P G.1 vwCl (tkw G ad a r) H → va_D A (tkw G ad a r) → va_S A s.heap H locs → ∀ (ls : Array Slot), lv_has ls 3 [(0, .ref (ad 0)), (1, .int (nI v)), (2, .int (nI k))] → WI p l e (rmN 0 0) s m [.ref (ad 0), .int (nI v)] below meth c H locs G A (fun (r9 : Int32) (_ : Unit) => r9 = (oN (mkF (r 3) v (a 10)))) (fun (_ : Unit) => tkw G ad a r) (F0 m 2 ls []) := by
    intro n2
    induction n2 with
    | zero => intro k h9; exact absurd h9 (Nat.not_lt_zero _)
    | succ n2 ih2 =>
      intro k hm2  hk hq H locs hP hD hS ls hl
      refine lv_iload_n hx hb dX4_markOf_2 rfl (lv_at hl 2 rfl) ?_
      refine lv_aload_n hx hb dX4_markOf_3 rfl (lv_at hl 0 rfl) ?_
      refine va_get (D := G.1) (ci := 3) (v := .int (nI (a 10))) (C := RX4) (T := TX4) (N := 12) hx hb hts inA4 hown hX.1 hP 0 rfl rfl 10 (by decide) (hts _ kw_103) (fun _ h9 => h9) rfl dX4_markOf_4 ?_
      refine nv_ge (x := k) (y := a 10) (tgt := 28) hx hb dX4_markOf_7 (by decide) (by omega) (by omega) (fun c7 => ?_) (fun c7 => ?_)
      · refine lv_bipush (v := (-9)) hx hb dX4_markOf_28 (by decide) ?_
        exact re_i (v := (-9)) hx hb hr hlocks hS () hP hD (by have e9 : k = a 10 := (by omega); rw [← e9, hq]; rfl) dX4_markOf_30
      · refine lv_aload_n hx hb dX4_markOf_10 rfl (lv_at hl 0 rfl) ?_
        refine va_get (D := G.1) (ci := 3) (v := .ref (ad 4)) (C := RX4) (T := TX4) (N := 12) hx hb hts inA4 hown hX.1 hP 0 rfl rfl 11 (by decide) (hts _ kw_106) (fun _ h9 => h9) rfl dX4_markOf_11 ?_
        refine lv_iload_n hx hb dX4_markOf_14 rfl (lv_at hl 2 rfl) ?_
        refine nv_ald (f := r 3) (k := k) hx hb hX hP 4 rfl (by omega) (by decide) dX4_markOf_15 ?_
        refine lv_iload_n hx hb dX4_markOf_16 rfl (lv_at hl 1 rfl) ?_
        refine nv_ne (x := (r 3) k) (y := v) (tgt := 22) hx hb dX4_markOf_17 (by decide) (by have := t12 k; omega) (by omega) (fun c17 => ?_) (fun c17 => ?_)
        · refine lv_iinc (v := (nI (k + 1))) (lv' := [(2, .int (nI (k + 1))), (0, .ref (ad 0)), (1, .int (nI v))]) hx hb dX4_markOf_22 hl (k := 2) rfl (qn_inc _) (by decide) rfl (fun ls hl => ?_)
          refine lv_goto (tgt := 2) hx hb dX4_markOf_25 (by decide) ?_
          exact ih2 (k + 1) (by omega) (by omega) (by rw [mkF, hq]; exact if_neg c17) _ _ hP hD hS ls (lv_sub hl [1, 2, 0] rfl)
        · refine lv_iload_n hx hb dX4_markOf_20 rfl (lv_at hl 2 rfl) ?_
          exact re_i (v := (nI k)) hx hb hr hlocks hS () hP hD (by rw [mkF_some (k := k + 1) (j := k) (by omega) (by rw [mkF, hq]; exact if_pos c17)]; rfl) dX4_markOf_21
  exact lp2 _ 0 (Nat.lt_succ_self _) (Nat.zero_le _) rfl _ _ hP hD hS ls (lv_sub hl [1, 2, 0] rfl)

theorem hdX4_turnMark : hdOK yX4_turnMark 1 := by decide +kernel
set_option maxHeartbeats 4000000 in
set_option maxRecDepth 100000 in
theorem mX4_turnMark_yes (l : Launch) (G : GG) (ad : Nat → Nat) (a : Nat → Nat) (r : Nat → Nat → Nat) (v j : Nat) (hT : TB a r) (hv : v < 2 ^ 31) (hj : mkF (r 3) v (a 10) = some j) : Mv l yX4_turnMark cX4_turnMark 3 none (rmN 1 26) G [.ref (ad 0), .int (nI v)] (tkw G ad a r) (fun (_ : Unit) => True) (fun (_ : Unit) => tkw G ad (va_up a 10 (a 10 - 1)) (va_up r 3 (va_cpy (r 3) (r 3) (j + 1) j (a 10 - 1 - j)))) := by
  refine Mv.of (cc := cX4_turnMark) (nL := 3) (by decide) (Nat.le_of_ble_eq_true rfl) ?_
  intro p e s m below meth c A ls F hr hlocks hnm hX hA hD hP hS hl
  have F : CallFix p m c cX4_turnMark 3 s [.ref (ad 0), .int (nI v)].toArray wA RX4 := F
  obtain ⟨hx, hb, hml, hown, hts⟩ := id F
  have hl : lv_has ls 3 [(0, .ref (ad 0)), (1, .int (nI v))] := hl
  obtain ⟨t0, t1, t2, t3, t4, t5, t6, t7, t8, t9, t10, t11, t12⟩ := id hT
  have hj2 := mkF_lt hj
  refine lv_aload_n hx hb dX4_turnMark_0 rfl (lv_at hl 0 rfl) ?_
  refine lv_iload_n hx hb dX4_turnMark_1 rfl (lv_at hl 1 rfl) ?_
  refine ca_Vi (ci := 3) (q := (RX4, TX4, 12)) (rest := []) (wr := ([] : va_W)) F hX (mX4_markOf l G ad a r v hT (by omega)) (cA_V hts kw_463 kw_3 kw_460 kw_461 kw_462 hdX4_markOf ⟨Nat.le_of_ble_eq_true rfl, Nat.le_of_ble_eq_true rfl⟩) rfl rfl rfl hl.1 rfl (Nat.le_of_ble_eq_true rfl) dX4_turnMark_2 ⟨Nat.le_of_ble_eq_true rfl, Nat.le_of_ble_eq_true rfl⟩ hP hD hS hA (pm_nil _) (fun r2 u2 H locs hp2 hP hD hS => ?_)
  have hP : va_P G.1 vwCl (tkw G ad a r) H := wp_pm (pm_nil _).symm hP
  have hD : va_D A (tkw G ad a r) := wd_pm (pm_nil _).symm hD
  subst hp2
  refine ti (y := (nI j)) (by rw [hj]; rfl) ?_
  refine lv_istore_n (lv' := [(2, .int (nI j)), (0, .ref (ad 0)), (1, .int (nI v))]) hx hb dX4_turnMark_5 rfl hl (by decide) rfl (fun ls hl => ?_)
  refine lv_iload_n hx hb dX4_turnMark_6 rfl (lv_at hl 0 rfl) ?_
  refine nv_zlt (x := j) (tgt := 44) hx hb dX4_turnMark_7 (by decide) (by omega) ?_
  refine lv_aload_n hx hb dX4_turnMark_10 rfl (lv_at hl 1 rfl) ?_
  refine lv_dup hx hb dX4_turnMark_11 rfl ?_
  refine va_get (D := G.1) (ci := 3) (v := .int (nI (a 10))) (C := RX4) (T := TX4) (N := 12) hx hb hts inA4 hown hX.1 hP 0 rfl rfl 10 (by decide) (hts _ kw_103) (fun _ h9 => h9) rfl dX4_turnMark_12 ?_
  refine lv_iconst (v := (nI 1)) hx hb dX4_turnMark_15 (by decide) ?_
  refine lv_isub hx hb dX4_turnMark_16 (ti (y := (nI ((a 10) - 1))) (pk_sub (by omega)) ?_)
  refine va_put (D := G.1) (ci := 3) (v := .int (nI ((a 10) - 1))) (ty := .int) (C := RX4) (T := TX4) (N := 12) hx hb hts inA4 tyX4 tyX4_ok nmX4 hown hX.1 hP hD hS 0 rfl rfl 10 (by decide) (hts _ kw_103) (fun _ h9 => h9) rfl (by decide +kernel) rfl rfl (Nat.le_of_ble_eq_true rfl) dX4_turnMark_17 (fun H locs hP hD hS => ?_)
  have hP : va_P G.1 vwCl (tkw G ad (va_up a 10 ((a 10) - 1)) r) H := hP
  have hD : va_D A (tkw G ad (va_up a 10 ((a 10) - 1)) r) := hD
  refine lv_aload_n hx hb dX4_turnMark_20 rfl (lv_at hl 1 rfl) ?_
  refine va_get (D := G.1) (ci := 3) (v := .ref (ad 4)) (C := RX4) (T := TX4) (N := 12) hx hb hts inA4 hown hX.1 hP 0 rfl rfl 11 (by decide) (hts _ kw_106) (fun _ h9 => h9) rfl dX4_turnMark_21 ?_
  refine lv_iload_n hx hb dX4_turnMark_24 rfl (lv_at hl 0 rfl) ?_
  refine lv_iconst (v := (nI 1)) hx hb dX4_turnMark_25 (by decide) ?_
  refine lv_iadd hx hb dX4_turnMark_26 (ti (y := (nI (j + 1))) (nI_add _ _) ?_)
  refine lv_aload_n hx hb dX4_turnMark_27 rfl (lv_at hl 1 rfl) ?_
  refine va_get (D := G.1) (ci := 3) (v := .ref (ad 4)) (C := RX4) (T := TX4) (N := 12) hx hb hts inA4 hown hX.1 hP 0 rfl rfl 11 (by decide) (hts _ kw_106) (fun _ h9 => h9) rfl dX4_turnMark_28 ?_
  refine lv_iload_n hx hb dX4_turnMark_31 rfl (lv_at hl 0 rfl) ?_
  refine lv_aload_n hx hb dX4_turnMark_32 rfl (lv_at hl 1 rfl) ?_
  refine va_get (D := G.1) (ci := 3) (v := .int (nI ((a 10) - 1))) (C := RX4) (T := TX4) (N := 12) hx hb hts inA4 hown hX.1 hP 0 rfl rfl 10 (by decide) (hts _ kw_103) (fun _ h9 => h9) rfl dX4_turnMark_33 ?_
  refine lv_iload_n hx hb dX4_turnMark_36 rfl (lv_at hl 0 rfl) ?_
  refine lv_isub hx hb dX4_turnMark_37 (ti (y := (nI (((a 10) - 1) - j))) (pk_sub (by omega)) ?_)
  refine nv_cpy (rest := []) (f := r 3) (g := r 3) (sp := j + 1) (dp := j) (n := ((a 10) - 1) - j) F hl.1 hX kw_374 kw_376 kw_375 kw_13 hP hD hS 4 4 rfl rfl (by omega) (by omega) (by decide) (by decide) (by decide) (Nat.le_of_ble_eq_true rfl) dX4_turnMark_38 (fun H locs hP hD hS => ?_)
  have hP : va_P G.1 vwCl (tkw G ad (va_up a 10 ((a 10) - 1)) (va_up r 3 (va_cpy (r 3) (r 3) (j + 1) j (((a 10) - 1) - j)))) H := hP
  have hD : va_D A (tkw G ad (va_up a 10 ((a 10) - 1)) (va_up r 3 (va_cpy (r 3) (r 3) (j + 1) j (((a 10) - 1) - j)))) := hD
  refine lv_goto (tgt := 73) hx hb dX4_turnMark_41 (by decide) ?_
  exact re_v hx hb hr hlocks hS () hP hD trivial dX4_turnMark_73

set_option maxHeartbeats 4000000 in
set_option maxRecDepth 100000 in
theorem mX4_turnMark_no (l : Launch) (G : GG) (ad : Nat → Nat) (a : Nat → Nat) (r : Nat → Nat → Nat) (v : Nat) (hT : TB a r) (hv : v < 2 ^ 31) (hj : mkF (r 3) v (a 10) = none) (hc : a 10 < 7) : Mv l yX4_turnMark cX4_turnMark 3 none (rmN 1 22) G [.ref (ad 0), .int (nI v)] (tkw G ad a r) (fun (_ : Unit) => True) (fun (_ : Unit) => tkw G ad (va_up a 10 (a 10 + 1)) (va_up r 3 (va_up (r 3) (a 10) v))) := by
  refine Mv.of (cc := cX4_turnMark) (nL := 3) (by decide) (Nat.le_of_ble_eq_true rfl) ?_
  intro p e s m below meth c A ls F hr hlocks hnm hX hA hD hP hS hl
  have F : CallFix p m c cX4_turnMark 3 s [.ref (ad 0), .int (nI v)].toArray wA RX4 := F
  obtain ⟨hx, hb, hml, hown, hts⟩ := id F
  have hl : lv_has ls 3 [(0, .ref (ad 0)), (1, .int (nI v))] := hl
  obtain ⟨t0, t1, t2, t3, t4, t5, t6, t7, t8, t9, t10, t11, t12⟩ := id hT
  refine lv_aload_n hx hb dX4_turnMark_0 rfl (lv_at hl 0 rfl) ?_
  refine lv_iload_n hx hb dX4_turnMark_1 rfl (lv_at hl 1 rfl) ?_
  refine ca_Vi (ci := 3) (q := (RX4, TX4, 12)) (rest := []) (wr := ([] : va_W)) F hX (mX4_markOf l G ad a r v hT (by omega)) (cA_V hts kw_463 kw_3 kw_460 kw_461 kw_462 hdX4_markOf ⟨Nat.le_of_ble_eq_true rfl, Nat.le_of_ble_eq_true rfl⟩) rfl rfl rfl hl.1 rfl (Nat.le_of_ble_eq_true rfl) dX4_turnMark_2 ⟨Nat.le_of_ble_eq_true rfl, Nat.le_of_ble_eq_true rfl⟩ hP hD hS hA (pm_nil _) (fun r2 u2 H locs hp2 hP hD hS => ?_)
  have hP : va_P G.1 vwCl (tkw G ad a r) H := wp_pm (pm_nil _).symm hP
  have hD : va_D A (tkw G ad a r) := wd_pm (pm_nil _).symm hD
  subst hp2
  refine ti (y := (-9)) (by rw [hj]; rfl) ?_
  refine lv_istore_n (lv' := [(2, .int (-9)), (0, .ref (ad 0)), (1, .int (nI v))]) hx hb dX4_turnMark_5 rfl hl (by decide) rfl (fun ls hl => ?_)
  refine lv_iload_n hx hb dX4_turnMark_6 rfl (lv_at hl 0 rfl) ?_
  refine lv_if_lt (x := (-9)) (tgt := 44) hx hb dX4_turnMark_7 (by decide) (fun c7 => ?_) (fun c7 => ?_)
  · refine lv_aload_n hx hb dX4_turnMark_44 rfl (lv_at hl 1 rfl) ?_
    refine va_get (D := G.1) (ci := 3) (v := .int (nI (a 10))) (C := RX4) (T := TX4) (N := 12) hx hb hts inA4 hown hX.1 hP 0 rfl rfl 10 (by decide) (hts _ kw_103) (fun _ h9 => h9) rfl dX4_turnMark_45 ?_
    refine lv_bipush (v := (nI 7)) hx hb dX4_turnMark_48 (by decide) ?_
    refine nv_ge (x := a 10) (y := 7) (tgt := 73) hx hb dX4_turnMark_50 (by decide) (by omega) (by decide) (fun c50 => ?_) (fun c50 => ?_)
    · exact absurd c50 (by omega)
    · refine lv_aload_n hx hb dX4_turnMark_53 rfl (lv_at hl 1 rfl) ?_
      refine va_get (D := G.1) (ci := 3) (v := .ref (ad 4)) (C := RX4) (T := TX4) (N := 12) hx hb hts inA4 hown hX.1 hP 0 rfl rfl 11 (by decide) (hts _ kw_106) (fun _ h9 => h9) rfl dX4_turnMark_54 ?_
      refine lv_aload_n hx hb dX4_turnMark_57 rfl (lv_at hl 1 rfl) ?_
      refine va_get (D := G.1) (ci := 3) (v := .int (nI (a 10))) (C := RX4) (T := TX4) (N := 12) hx hb hts inA4 hown hX.1 hP 0 rfl rfl 10 (by decide) (hts _ kw_103) (fun _ h9 => h9) rfl dX4_turnMark_58 ?_
      refine lv_iload_n hx hb dX4_turnMark_61 rfl (lv_at hl 2 rfl) ?_
      refine nv_ast (f := r 3) (k := a 10) (v := v) hx hb hX hP hD hS 4 rfl (by omega) (by decide) dX4_turnMark_62 (fun H locs hP hD hS => ?_)
      have hP : va_P G.1 vwCl (tkw G ad a (va_up r 3 (va_up (r 3) (a 10) v))) H := hP
      have hD : va_D A (tkw G ad a (va_up r 3 (va_up (r 3) (a 10) v))) := hD
      refine lv_aload_n hx hb dX4_turnMark_63 rfl (lv_at hl 1 rfl) ?_
      refine lv_dup hx hb dX4_turnMark_64 rfl ?_
      refine va_get (D := G.1) (ci := 3) (v := .int (nI (a 10))) (C := RX4) (T := TX4) (N := 12) hx hb hts inA4 hown hX.1 hP 0 rfl rfl 10 (by decide) (hts _ kw_103) (fun _ h9 => h9) rfl dX4_turnMark_65 ?_
      refine lv_iconst (v := (nI 1)) hx hb dX4_turnMark_68 (by decide) ?_
      refine lv_iadd hx hb dX4_turnMark_69 (ti (y := (nI ((a 10) + 1))) (nI_add _ _) ?_)
      refine va_put (D := G.1) (ci := 3) (v := .int (nI ((a 10) + 1))) (ty := .int) (C := RX4) (T := TX4) (N := 12) hx hb hts inA4 tyX4 tyX4_ok nmX4 hown hX.1 hP hD hS 0 rfl rfl 10 (by decide) (hts _ kw_103) (fun _ h9 => h9) rfl (by decide +kernel) rfl rfl (Nat.le_of_ble_eq_true rfl) dX4_turnMark_70 (fun H locs hP hD hS => ?_)
      have hP : va_P G.1 vwCl (tkw G ad (va_up a 10 ((a 10) + 1)) (va_up r 3 (va_up (r 3) (a 10) v))) H := hP
      have hD : va_D A (tkw G ad (va_up a 10 ((a 10) + 1)) (va_up r 3 (va_up (r 3) (a 10) v))) := hD
      exact re_v hx hb hr hlocks hS () hP hD trivial dX4_turnMark_73
  · exact absurd (by decide) c7

theorem hdX4_prune : hdOK yX4_prune 0 := by decide +kernel
set_option maxHeartbeats 4000000 in
set_option maxRecDepth 100000 in
theorem mX4_prune (l : Launch) (G : GG) (ad : Nat → Nat) (a : Nat → Nat) (r : Nat → Nat → Nat) (hT : TB a r) : Mv l yX4_prune cX4_prune 5 none (rmN 2 44) G [.ref (ad 0)] (tkw G ad a r) (fun (_ : Unit) => True) (fun (_ : Unit) => tkw G ad (va_up a 8 (prN (r 0) (r 1) (a 7 ||| 2 ^ a 1) (a 3) (a 0) (fun x => bts x 12) (a 0) (a 8))) r) := by
  refine Mv.of (cc := cX4_prune) (nL := 5) (by decide) (Nat.le_of_ble_eq_true rfl) ?_
  intro p e s m below meth c A ls F hr hlocks hnm hX hA hD hP hS hl
  have F : CallFix p m c cX4_prune 5 s [.ref (ad 0)].toArray wA RX4 := F
  obtain ⟨hx, hb, hml, hown, hts⟩ := id F
  have hl : lv_has ls 5 [(0, .ref (ad 0))] := hl
  obtain ⟨t0, t1, t2, t3, t4, t5, t6, t7, t8, t9, t10, t11, t12⟩ := id hT
  have hsv : a 7 ||| 2 ^ a 1 < 128 := or_lt (n := 7) t8 (pw_lt (by omega))
  refine lv_aload_n hx hb dX4_prune_0 rfl (lv_at hl 0 rfl) ?_
  refine va_get (D := G.1) (ci := 3) (v := .int (nI (a 7))) (C := RX4) (T := TX4) (N := 12) hx hb hts inA4 hown hX.1 hP 0 rfl rfl 7 (by decide) (hts _ kw_94) (fun _ h9 => h9) rfl dX4_prune_1 ?_
  refine lv_iconst (v := (nI 1)) hx hb dX4_prune_4 (by decide) ?_
  refine lv_aload_n hx hb dX4_prune_5 rfl (lv_at hl 0 rfl) ?_
  refine va_get (D := G.1) (ci := 3) (v := .int (nI (a 1))) (C := RX4) (T := TX4) (N := 12) hx hb hts inA4 hown hX.1 hP 0 rfl rfl 1 (by decide) (hts _ kw_69) (fun _ h9 => h9) rfl dX4_prune_6 ?_
  refine lv_ishl hx hb dX4_prune_9 (ti (y := (nI (2 ^ (a 1)))) (qn_sh1 (by omega)) ?_)
  refine lv_ior hx hb dX4_prune_10 (ti (y := (nI ((a 7) ||| (2 ^ (a 1))))) (qn_or _ _) ?_)
  refine lv_istore_n (lv' := [(1, .int (nI ((a 7) ||| (2 ^ (a 1))))), (0, .ref (ad 0))]) hx hb dX4_prune_11 rfl hl (by decide) rfl (fun ls hl => ?_)
  refine lv_iconst (v := (nI 0)) hx hb dX4_prune_12 (by decide) ?_
  refine lv_istore_n (lv' := [(2, .int (nI 0)), (1, .int (nI ((a 7) ||| (2 ^ (a 1))))), (0, .ref (ad 0))]) hx hb dX4_prune_13 rfl hl (by decide) rfl (fun ls hl => ?_)
  have lp14 : ∀ (n14 : Nat) (q : Nat) (t : Nat), (a 0 - q) < n14 → t = prN (r 0) (r 1) (a 7 ||| 2 ^ a 1) (a 3) (a 0) (fun x => bts x 12) q (a 8) → (q ≤ a 0) → ∀ (H : Heap) (locs : List Loc), va_P G.1 vwCl (tkw G ad (va_up a 8 t) r) H → va_D A (tkw G ad (va_up a 8 t) r) → va_S A s.heap H locs → ∀ (ls : Array Slot), lv_has ls 5 [(0, .ref (ad 0)), (1, .int (nI (a 7 ||| 2 ^ a 1))), (2, .int (nI q))] → WV p l e (rmN 2 44) s m [.ref (ad 0)] below meth c H locs G A (fun (_ : Unit) => True) (fun (_ : Unit) => tkw G ad (va_up a 8 (prN (r 0) (r 1) (a 7 ||| 2 ^ a 1) (a 3) (a 0) (fun x => bts x 12) (a 0) (a 8))) r) (F0 m 14 ls []) := by
    intro n14
    induction n14 with
    | zero => intro q t h9; exact absurd h9 (Nat.not_lt_zero _)
    | succ n14 ih14 =>
      intro q t hm14 e_t hq H locs hP hD hS ls hl
      subst e_t
      refine lv_iload_n hx hb dX4_prune_14 rfl (lv_at hl 2 rfl) ?_
      refine lv_aload_n hx hb dX4_prune_15 rfl (lv_at hl 0 rfl) ?_
      refine va_get (D := G.1) (ci := 3) (v := .int (nI (a 0))) (C := RX4) (T := TX4) (N := 12) hx hb hts inA4 hown hX.1 hP 0 rfl rfl 0 (by decide) (hts _ kw_62) (fun _ h9 => h9) rfl dX4_prune_16 ?_
      refine nv_ge (x := q) (y := a 0) (tgt := 86) hx hb dX4_prune_19 (by decide) (by omega) (by omega) (fun c19 => ?_) (fun c19 => ?_)
      · have e9 : q = a 0 := (by omega)
        rw [e9] at hP hD
        exact re_v hx hb hr hlocks hS () hP hD trivial dX4_prune_86
      · refine lv_iconst (v := (nI 0)) hx hb dX4_prune_22 (by decide) ?_
        refine lv_istore_n (lv' := [(3, .int (nI 0)), (0, .ref (ad 0)), (1, .int (nI (a 7 ||| 2 ^ a 1))), (2, .int (nI q))]) hx hb dX4_prune_23 rfl hl (by decide) rfl (fun ls hl => ?_)
        have lp24 : ∀ (n24 : Nat) (v : Nat) (t : Nat), (a 0 - v) < n24 → t = prR (r 0) (r 1) (a 7 ||| 2 ^ a 1) (a 3) (fun x => bts x 12) v (prN (r 0) (r 1) (a 7 ||| 2 ^ a 1) (a 3) (a 0) (fun x => bts x 12) q (a 8)) → (v ≤ a 0) → ∀ (H : Heap) (locs : List Loc), va_P G.1 vwCl (tkw G ad (va_up a 8 t) r) H → va_D A (tkw G ad (va_up a 8 t) r) → va_S A s.heap H locs → ∀ (ls : Array Slot), lv_has ls 5 [(0, .ref (ad 0)), (1, .int (nI (a 7 ||| 2 ^ a 1))), (2, .int (nI q)), (3, .int (nI v))] → WV p l e (rmN 2 44) s m [.ref (ad 0)] below meth c H locs G A (fun (_ : Unit) => True) (fun (_ : Unit) => tkw G ad (va_up a 8 (prN (r 0) (r 1) (a 7 ||| 2 ^ a 1) (a 3) (a 0) (fun x => bts x 12) (a 0) (a 8))) r) (F0 m 24 ls []) := by
          intro n24
          induction n24 with
          | zero => intro v t h9; exact absurd h9 (Nat.not_lt_zero _)
          | succ n24 ih24 =>
            intro v t hm24 e_t hv H locs hP hD hS ls hl
            subst e_t
            refine lv_iload_n hx hb dX4_prune_24 rfl (lv_at hl 3 rfl) ?_
            refine lv_aload_n hx hb dX4_prune_25 rfl (lv_at hl 0 rfl) ?_
            refine va_get (D := G.1) (ci := 3) (v := .int (nI (a 0))) (C := RX4) (T := TX4) (N := 12) hx hb hts inA4 hown hX.1 hP 0 rfl rfl 0 (by decide) (hts _ kw_62) (fun _ h9 => h9) rfl dX4_prune_26 ?_
            refine nv_ge (x := v) (y := a 0) (tgt := 80) hx hb dX4_prune_29 (by decide) (by omega) (by omega) (fun c29 => ?_) (fun c29 => ?_)
            · refine lv_iinc (v := (nI (q + 1))) (lv' := [(2, .int (nI (q + 1))), (0, .ref (ad 0)), (1, .int (nI (a 7 ||| 2 ^ a 1))), (3, .int (nI v))]) hx hb dX4_prune_80 hl (k := 2) rfl (qn_inc _) (by decide) rfl (fun ls hl => ?_)
              refine lv_goto (tgt := 14) hx hb dX4_prune_83 (by decide) ?_
              exact ih14 (q + 1) (prR (r 0) (r 1) (a 7 ||| 2 ^ a 1) (a 3) (fun x => bts x 12) v (prN (r 0) (r 1) (a 7 ||| 2 ^ a 1) (a 3) (a 0) (fun x => bts x 12) q (a 8))) (by omega) (by have e9 : v = a 0 := (by omega); rw [e9]; rfl) (by omega) _ _ hP hD hS ls (lv_sub hl [1, 2, 0] rfl)
            · refine lv_aload_n hx hb dX4_prune_32 rfl (lv_at hl 0 rfl) ?_
              refine lv_iload_n hx hb dX4_prune_33 rfl (lv_at hl 3 rfl) ?_
              have hT2 := hT.tr (t := prR (r 0) (r 1) (a 7 ||| 2 ^ a 1) (a 3) (fun x => bts x 12) v (prN (r 0) (r 1) (a 7 ||| 2 ^ a 1) (a 3) (a 0) (fun x => bts x 12) q (a 8))) (by have h1 := prR_le (r 0) (r 1) (a 7 ||| 2 ^ a 1) (a 3) (fun x => bts x 12) (prN (r 0) (r 1) (a 7 ||| 2 ^ a 1) (a 3) (a 0) (fun x => bts x 12) q (a 8)) v; have h2 := prN_le (r 0) (r 1) (a 7 ||| 2 ^ a 1) (a 3) (a 0) (fun x => bts x 12) (a 8) q; omega)
              refine ca_Vi (ci := 3) (q := (RX4, TX4, 12)) (rest := []) (wr := ([] : va_W)) F hX (mX4_linksAt l G ad (va_up a 8 (prR (r 0) (r 1) (a 7 ||| 2 ^ a 1) (a 3) (fun x => bts x 12) v (prN (r 0) (r 1) (a 7 ||| 2 ^ a 1) (a 3) (a 0) (fun x => bts x 12) q (a 8)))) r v hT2 (by omega)) (cA_V hts kw_350 kw_3 kw_347 kw_348 kw_349 hdX4_linksAt ⟨Nat.le_of_ble_eq_true rfl, Nat.le_of_ble_eq_true rfl⟩) rfl rfl rfl hl.1 rfl (Nat.le_of_ble_eq_true rfl) dX4_prune_34 ⟨Nat.le_of_ble_eq_true rfl, Nat.le_of_ble_eq_true rfl⟩ hP hD hS hA (pm_nil _) (fun r34 u34 H locs hp34 hP hD hS => ?_)
              have hP : va_P G.1 vwCl (tkw G ad (va_up a 8 (prR (r 0) (r 1) (a 7 ||| 2 ^ a 1) (a 3) (fun x => bts x 12) v (prN (r 0) (r 1) (a 7 ||| 2 ^ a 1) (a 3) (a 0) (fun x => bts x 12) q (a 8)))) r) H := wp_pm (pm_nil _).symm hP
              have hD : va_D A (tkw G ad (va_up a 8 (prR (r 0) (r 1) (a 7 ||| 2 ^ a 1) (a 3) (fun x => bts x 12) v (prN (r 0) (r 1) (a 7 ||| 2 ^ a 1) (a 3) (a 0) (fun x => bts x 12) q (a 8)))) r) := wd_pm (pm_nil _).symm hD
              subst hp34
              refine lv_aload_n hx hb dX4_prune_37 rfl (lv_at hl 0 rfl) ?_
              refine va_get (D := G.1) (ci := 3) (v := .int (nI (prR (r 0) (r 1) (a 7 ||| 2 ^ a 1) (a 3) (fun x => bts x 12) v (prN (r 0) (r 1) (a 7 ||| 2 ^ a 1) (a 3) (a 0) (fun x => bts x 12) q (a 8))))) (C := RX4) (T := TX4) (N := 12) hx hb hts inA4 hown hX.1 hP 0 rfl rfl 8 (by decide) (hts _ kw_98) (fun _ h9 => h9) rfl dX4_prune_38 ?_
              refine lv_iand hx hb dX4_prune_41 (ti (y := (nI ((lkA (r 0) (r 1) v (a 3)) &&& (prR (r 0) (r 1) (a 7 ||| 2 ^ a 1) (a 3) (fun x => bts x 12) v (prN (r 0) (r 1) (a 7 ||| 2 ^ a 1) (a 3) (a 0) (fun x => bts x 12) q (a 8)))))) (qn_and _ _) ?_)
              refine lv_istore (lv' := [(4, .int (nI ((lkA (r 0) (r 1) v (a 3)) &&& (prR (r 0) (r 1) (a 7 ||| 2 ^ a 1) (a 3) (fun x => bts x 12) v (prN (r 0) (r 1) (a 7 ||| 2 ^ a 1) (a 3) (a 0) (fun x => bts x 12) q (a 8)))))), (0, .ref (ad 0)), (1, .int (nI (a 7 ||| 2 ^ a 1))), (2, .int (nI q)), (3, .int (nI v))]) hx hb dX4_prune_42 hl (by decide) rfl (fun ls hl => ?_)
              refine lv_iload_n hx hb dX4_prune_44 rfl (lv_at hl 2 rfl) ?_
              refine lv_iload_n hx hb dX4_prune_45 rfl (lv_at hl 4 rfl) ?_
              refine ca_Ni (rest := []) (wr := tkw G ad (va_up a 8 (prR (r 0) (r 1) (a 7 ||| 2 ^ a 1) (a 3) (fun x => bts x 12) v (prN (r 0) (r 1) (a 7 ||| 2 ^ a 1) (a 3) (a 0) (fun x => bts x 12) q (a 8)))) r) F hX (mX7_has l G (a 7 ||| 2 ^ a 1) v (by omega) (by omega)) ⟨cA_N hts kw_357 kw_1 hX.2.2.2.2.2.2.2.2.2.2.1 hdX7_has ⟨Nat.le_of_ble_eq_true rfl, Nat.le_of_ble_eq_true rfl⟩, hts _ kw_356, trivial⟩ rfl hl.1 rfl (Nat.le_of_ble_eq_true rfl) dX4_prune_46 ⟨Nat.le_of_ble_eq_true rfl, Nat.le_of_ble_eq_true rfl⟩ hP hD hS hA (List.Perm.refl _) (fun r46 u46 H locs hp46 hP hD hS => ?_)
              have hP : va_P G.1 vwCl (tkw G ad (va_up a 8 (prR (r 0) (r 1) (a 7 ||| 2 ^ a 1) (a 3) (fun x => bts x 12) v (prN (r 0) (r 1) (a 7 ||| 2 ^ a 1) (a 3) (a 0) (fun x => bts x 12) q (a 8)))) r) H := hP
              have hD : va_D A (tkw G ad (va_up a 8 (prR (r 0) (r 1) (a 7 ||| 2 ^ a 1) (a 3) (fun x => bts x 12) v (prN (r 0) (r 1) (a 7 ||| 2 ^ a 1) (a 3) (a 0) (fun x => bts x 12) q (a 8)))) r) := hD
              subst hp46
              refine bv_ne (b := (a 7 ||| 2 ^ a 1).testBit v) (tgt := 74) hx hb dX4_prune_49 (by decide) (fun c49 => ?_) (fun c49 => ?_)
              · refine lv_iinc (v := (nI (v + 1))) (lv' := [(3, .int (nI (v + 1))), (4, .int (nI ((lkA (r 0) (r 1) v (a 3)) &&& (prR (r 0) (r 1) (a 7 ||| 2 ^ a 1) (a 3) (fun x => bts x 12) v (prN (r 0) (r 1) (a 7 ||| 2 ^ a 1) (a 3) (a 0) (fun x => bts x 12) q (a 8)))))), (0, .ref (ad 0)), (1, .int (nI (a 7 ||| 2 ^ a 1))), (2, .int (nI q))]) hx hb dX4_prune_74 hl (k := 4) rfl (qn_inc _) (by decide) rfl (fun ls hl => ?_)
                refine lv_goto (tgt := 24) hx hb dX4_prune_77 (by decide) ?_
                exact ih24 (v + 1) (prR (r 0) (r 1) (a 7 ||| 2 ^ a 1) (a 3) (fun x => bts x 12) v (prN (r 0) (r 1) (a 7 ||| 2 ^ a 1) (a 3) (a 0) (fun x => bts x 12) q (a 8))) (by omega) (by first | (rw [prR, prS, if_pos ⟨c49, c58⟩]; done) | (rw [prR, prS, if_neg (fun h => c58 h.2)]; done) | (rw [prR, prS, if_neg (fun h => by rw [c49] at h; exact absurd h.1 (by decide))]; done)) (by omega) _ _ hP hD hS ls (lv_sub hl [2, 3, 4, 0] rfl)
              · refine lv_iload hx hb dX4_prune_52 (lv_at hl 0 rfl) ?_
                refine ca_Si (rest := []) (wr := tkw G ad (va_up a 8 (prR (r 0) (r 1) (a 7 ||| 2 ^ a 1) (a 3) (fun x => bts x 12) v (prN (r 0) (r 1) (a 7 ||| 2 ^ a 1) (a 3) (a 0) (fun x => bts x 12) q (a 8)))) r) F hX (mJ6_bitCount_0f7a4 l G ((lkA (r 0) (r 1) v (a 3)) &&& (prR (r 0) (r 1) (a 7 ||| 2 ^ a 1) (a 3) (fun x => bts x 12) v (prN (r 0) (r 1) (a 7 ||| 2 ^ a 1) (a 3) (a 0) (fun x => bts x 12) q (a 8)))) (Nat.lt_of_le_of_lt Nat.and_le_left (Nat.lt_of_lt_of_le (lkA_lt (r 0) (r 1) v (a 3)) (pw12 t4)))) (cA_S hts kw_503 kw_16 kw_501 kw_502 hdJ6_bitCount_0f7a4 ⟨Nat.le_of_ble_eq_true rfl, Nat.le_of_ble_eq_true rfl⟩) rfl hl.1 rfl (Nat.le_of_ble_eq_true rfl) dX4_prune_54 ⟨Nat.le_of_ble_eq_true rfl, Nat.le_of_ble_eq_true rfl⟩ hP hD hS hA (List.Perm.refl _) (fun r54 u54 H locs hp54 hP hD hS => ?_)
                have hP : va_P G.1 vwCl (tkw G ad (va_up a 8 (prR (r 0) (r 1) (a 7 ||| 2 ^ a 1) (a 3) (fun x => bts x 12) v (prN (r 0) (r 1) (a 7 ||| 2 ^ a 1) (a 3) (a 0) (fun x => bts x 12) q (a 8)))) r) H := hP
                have hD : va_D A (tkw G ad (va_up a 8 (prR (r 0) (r 1) (a 7 ||| 2 ^ a 1) (a 3) (fun x => bts x 12) v (prN (r 0) (r 1) (a 7 ||| 2 ^ a 1) (a 3) (a 0) (fun x => bts x 12) q (a 8)))) r) := hD
                subst hp54
                refine lv_iconst (v := (nI 1)) hx hb dX4_prune_57 (by decide) ?_
                refine nv_ne (x := bts ((lkA (r 0) (r 1) v (a 3)) &&& (prR (r 0) (r 1) (a 7 ||| 2 ^ a 1) (a 3) (fun x => bts x 12) v (prN (r 0) (r 1) (a 7 ||| 2 ^ a 1) (a 3) (a 0) (fun x => bts x 12) q (a 8)))) 12) (y := 1) (tgt := 74) hx hb dX4_prune_58 (by decide) (by have := bts_le (lkA (r 0) (r 1) v (a 3) &&& prR (r 0) (r 1) (a 7 ||| 2 ^ a 1) (a 3) (fun x => bts x 12) v (prN (r 0) (r 1) (a 7 ||| 2 ^ a 1) (a 3) (a 0) (fun x => bts x 12) q (a 8))) 12; omega) (by decide) (fun c58 => ?_) (fun c58 => ?_)
                · refine lv_iinc (v := (nI (v + 1))) (lv' := [(3, .int (nI (v + 1))), (4, .int (nI ((lkA (r 0) (r 1) v (a 3)) &&& (prR (r 0) (r 1) (a 7 ||| 2 ^ a 1) (a 3) (fun x => bts x 12) v (prN (r 0) (r 1) (a 7 ||| 2 ^ a 1) (a 3) (a 0) (fun x => bts x 12) q (a 8)))))), (0, .ref (ad 0)), (1, .int (nI (a 7 ||| 2 ^ a 1))), (2, .int (nI q))]) hx hb dX4_prune_74 hl (k := 4) rfl (qn_inc _) (by decide) rfl (fun ls hl => ?_)
                  refine lv_goto (tgt := 24) hx hb dX4_prune_77 (by decide) ?_
                  exact ih24 (v + 1) (prR (r 0) (r 1) (a 7 ||| 2 ^ a 1) (a 3) (fun x => bts x 12) v (prN (r 0) (r 1) (a 7 ||| 2 ^ a 1) (a 3) (a 0) (fun x => bts x 12) q (a 8))) (by omega) (by first | (rw [prR, prS, if_pos ⟨c49, c58⟩]; done) | (rw [prR, prS, if_neg (fun h => c58 h.2)]; done) | (rw [prR, prS, if_neg (fun h => by rw [c49] at h; exact absurd h.1 (by decide))]; done)) (by omega) _ _ hP hD hS ls (lv_sub hl [2, 3, 4, 0] rfl)
                · refine lv_aload_n hx hb dX4_prune_61 rfl (lv_at hl 1 rfl) ?_
                  refine lv_dup hx hb dX4_prune_62 rfl ?_
                  refine va_get (D := G.1) (ci := 3) (v := .int (nI (prR (r 0) (r 1) (a 7 ||| 2 ^ a 1) (a 3) (fun x => bts x 12) v (prN (r 0) (r 1) (a 7 ||| 2 ^ a 1) (a 3) (a 0) (fun x => bts x 12) q (a 8))))) (C := RX4) (T := TX4) (N := 12) hx hb hts inA4 hown hX.1 hP 0 rfl rfl 8 (by decide) (hts _ kw_98) (fun _ h9 => h9) rfl dX4_prune_63 ?_
                  refine lv_iload hx hb dX4_prune_66 (lv_at hl 0 rfl) ?_
                  refine lv_iconst (v := (-1)) hx hb dX4_prune_68 (by decide) ?_
                  refine lv_ixor hx hb dX4_prune_69 ?_
                  refine lv_iand hx hb dX4_prune_70 (ti (y := (nI (nd (prR (r 0) (r 1) (a 7 ||| 2 ^ a 1) (a 3) (fun x => bts x 12) v (prN (r 0) (r 1) (a 7 ||| 2 ^ a 1) (a 3) (a 0) (fun x => bts x 12) q (a 8))) ((lkA (r 0) (r 1) v (a 3)) &&& (prR (r 0) (r 1) (a 7 ||| 2 ^ a 1) (a 3) (fun x => bts x 12) v (prN (r 0) (r 1) (a 7 ||| 2 ^ a 1) (a 3) (a 0) (fun x => bts x 12) q (a 8))))))) (qn_andn _ _) ?_)
                  refine va_put (D := G.1) (ci := 3) (v := .int (nI (nd (prR (r 0) (r 1) (a 7 ||| 2 ^ a 1) (a 3) (fun x => bts x 12) v (prN (r 0) (r 1) (a 7 ||| 2 ^ a 1) (a 3) (a 0) (fun x => bts x 12) q (a 8))) ((lkA (r 0) (r 1) v (a 3)) &&& (prR (r 0) (r 1) (a 7 ||| 2 ^ a 1) (a 3) (fun x => bts x 12) v (prN (r 0) (r 1) (a 7 ||| 2 ^ a 1) (a 3) (a 0) (fun x => bts x 12) q (a 8))))))) (ty := .int) (C := RX4) (T := TX4) (N := 12) hx hb hts inA4 tyX4 tyX4_ok nmX4 hown hX.1 hP hD hS 0 rfl rfl 8 (by decide) (hts _ kw_98) (fun _ h9 => h9) rfl (by decide +kernel) rfl rfl (Nat.le_of_ble_eq_true rfl) dX4_prune_71 (fun H locs hP hD hS => ?_)
                  have hP : va_P G.1 vwCl (tkw G ad (va_up a 8 (nd (prR (r 0) (r 1) (a 7 ||| 2 ^ a 1) (a 3) (fun x => bts x 12) v (prN (r 0) (r 1) (a 7 ||| 2 ^ a 1) (a 3) (a 0) (fun x => bts x 12) q (a 8))) ((lkA (r 0) (r 1) v (a 3)) &&& (prR (r 0) (r 1) (a 7 ||| 2 ^ a 1) (a 3) (fun x => bts x 12) v (prN (r 0) (r 1) (a 7 ||| 2 ^ a 1) (a 3) (a 0) (fun x => bts x 12) q (a 8)))))) r) H := hP
                  have hD : va_D A (tkw G ad (va_up a 8 (nd (prR (r 0) (r 1) (a 7 ||| 2 ^ a 1) (a 3) (fun x => bts x 12) v (prN (r 0) (r 1) (a 7 ||| 2 ^ a 1) (a 3) (a 0) (fun x => bts x 12) q (a 8))) ((lkA (r 0) (r 1) v (a 3)) &&& (prR (r 0) (r 1) (a 7 ||| 2 ^ a 1) (a 3) (fun x => bts x 12) v (prN (r 0) (r 1) (a 7 ||| 2 ^ a 1) (a 3) (a 0) (fun x => bts x 12) q (a 8)))))) r) := hD
                  refine lv_iinc (v := (nI (v + 1))) (lv' := [(3, .int (nI (v + 1))), (4, .int (nI ((lkA (r 0) (r 1) v (a 3)) &&& (prR (r 0) (r 1) (a 7 ||| 2 ^ a 1) (a 3) (fun x => bts x 12) v (prN (r 0) (r 1) (a 7 ||| 2 ^ a 1) (a 3) (a 0) (fun x => bts x 12) q (a 8)))))), (0, .ref (ad 0)), (1, .int (nI (a 7 ||| 2 ^ a 1))), (2, .int (nI q))]) hx hb dX4_prune_74 hl (k := 4) rfl (qn_inc _) (by decide) rfl (fun ls hl => ?_)
                  refine lv_goto (tgt := 24) hx hb dX4_prune_77 (by decide) ?_
                  exact ih24 (v + 1) (nd (prR (r 0) (r 1) (a 7 ||| 2 ^ a 1) (a 3) (fun x => bts x 12) v (prN (r 0) (r 1) (a 7 ||| 2 ^ a 1) (a 3) (a 0) (fun x => bts x 12) q (a 8))) ((lkA (r 0) (r 1) v (a 3)) &&& (prR (r 0) (r 1) (a 7 ||| 2 ^ a 1) (a 3) (fun x => bts x 12) v (prN (r 0) (r 1) (a 7 ||| 2 ^ a 1) (a 3) (a 0) (fun x => bts x 12) q (a 8))))) (by omega) (by first | (rw [prR, prS, if_pos ⟨c49, c58⟩]; done) | (rw [prR, prS, if_neg (fun h => c58 h.2)]; done) | (rw [prR, prS, if_neg (fun h => by rw [c49] at h; exact absurd h.1 (by decide))]; done)) (by omega) _ _ hP hD hS ls (lv_sub hl [2, 3, 4, 0] rfl)
        exact lp24 _ 0 (prN (r 0) (r 1) (a 7 ||| 2 ^ a 1) (a 3) (a 0) (fun x => bts x 12) q (a 8)) (Nat.lt_succ_self _) rfl (Nat.zero_le _) _ _ hP hD hS ls (lv_sub hl [1, 2, 3, 0] rfl)
  exact lp14 _ 0 (a 8) (Nat.lt_succ_self _) rfl (Nat.zero_le _) _ _ hP hD hS ls (lv_sub hl [2, 1, 0] rfl)

theorem hdX4_beAsAtFirst : hdOK yX4_beAsAtFirst 0 := by decide +kernel
set_option maxHeartbeats 4000000 in
set_option maxRecDepth 100000 in
theorem mX4_beAsAtFirst (l : Launch) (G : GG) (ad : Nat → Nat) (a : Nat → Nat) (r : Nat → Nat → Nat)  : Mv l yX4_beAsAtFirst cX4_beAsAtFirst 1 none (rmN 0 0) G [.ref (ad 0)] (tkw G ad a r) (fun (_ : Unit) => True) (fun (_ : Unit) => tkw G ad (va_up (va_up (va_up (va_up (va_up (va_up (va_up (va_up a 0 2) 1 0) 2 0) 3 0) 7 0) 8 0) 9 0) 10 0) r) := by
  refine Mv.of (cc := cX4_beAsAtFirst) (nL := 1) (by decide) (Nat.le_of_ble_eq_true rfl) ?_
  intro p e s m below meth c A ls F hr hlocks hnm hX hA hD hP hS hl
  have F : CallFix p m c cX4_beAsAtFirst 1 s [.ref (ad 0)].toArray wA RX4 := F
  obtain ⟨hx, hb, hml, hown, hts⟩ := id F
  have hl : lv_has ls 1 [(0, .ref (ad 0))] := hl
  refine lv_aload_n hx hb dX4_beAsAtFirst_0 rfl (lv_at hl 0 rfl) ?_
  refine lv_iconst (v := (nI 2)) hx hb dX4_beAsAtFirst_1 (by decide) ?_
  refine va_put (D := G.1) (ci := 3) (v := .int (nI 2)) (ty := .int) (C := RX4) (T := TX4) (N := 12) hx hb hts inA4 tyX4 tyX4_ok nmX4 hown hX.1 hP hD hS 0 rfl rfl 0 (by decide) (hts _ kw_62) (fun _ h9 => h9) rfl (by decide +kernel) rfl rfl (Nat.le_of_ble_eq_true rfl) dX4_beAsAtFirst_2 (fun H locs hP hD hS => ?_)
  have hP : va_P G.1 vwCl (tkw G ad (va_up a 0 2) r) H := hP
  have hD : va_D A (tkw G ad (va_up a 0 2) r) := hD
  refine lv_aload_n hx hb dX4_beAsAtFirst_5 rfl (lv_at hl 0 rfl) ?_
  refine lv_iconst (v := (nI 0)) hx hb dX4_beAsAtFirst_6 (by decide) ?_
  refine va_put (D := G.1) (ci := 3) (v := .int (nI 0)) (ty := .int) (C := RX4) (T := TX4) (N := 12) hx hb hts inA4 tyX4 tyX4_ok nmX4 hown hX.1 hP hD hS 0 rfl rfl 1 (by decide) (hts _ kw_69) (fun _ h9 => h9) rfl (by decide +kernel) rfl rfl (Nat.le_of_ble_eq_true rfl) dX4_beAsAtFirst_7 (fun H locs hP hD hS => ?_)
  have hP : va_P G.1 vwCl (tkw G ad (va_up (va_up a 0 2) 1 0) r) H := hP
  have hD : va_D A (tkw G ad (va_up (va_up a 0 2) 1 0) r) := hD
  refine lv_aload_n hx hb dX4_beAsAtFirst_10 rfl (lv_at hl 0 rfl) ?_
  refine lv_iconst (v := (nI 0)) hx hb dX4_beAsAtFirst_11 (by decide) ?_
  refine va_put (D := G.1) (ci := 3) (v := .int (nI 0)) (ty := .int) (C := RX4) (T := TX4) (N := 12) hx hb hts inA4 tyX4 tyX4_ok nmX4 hown hX.1 hP hD hS 0 rfl rfl 2 (by decide) (hts _ kw_72) (fun _ h9 => h9) rfl (by decide +kernel) rfl rfl (Nat.le_of_ble_eq_true rfl) dX4_beAsAtFirst_12 (fun H locs hP hD hS => ?_)
  have hP : va_P G.1 vwCl (tkw G ad (va_up (va_up (va_up a 0 2) 1 0) 2 0) r) H := hP
  have hD : va_D A (tkw G ad (va_up (va_up (va_up a 0 2) 1 0) 2 0) r) := hD
  refine lv_aload_n hx hb dX4_beAsAtFirst_15 rfl (lv_at hl 0 rfl) ?_
  refine lv_iconst (v := (nI 0)) hx hb dX4_beAsAtFirst_16 (by decide) ?_
  refine va_put (D := G.1) (ci := 3) (v := .int (nI 0)) (ty := .int) (C := RX4) (T := TX4) (N := 12) hx hb hts inA4 tyX4 tyX4_ok nmX4 hown hX.1 hP hD hS 0 rfl rfl 3 (by decide) (hts _ kw_76) (fun _ h9 => h9) rfl (by decide +kernel) rfl rfl (Nat.le_of_ble_eq_true rfl) dX4_beAsAtFirst_17 (fun H locs hP hD hS => ?_)
  have hP : va_P G.1 vwCl (tkw G ad (va_up (va_up (va_up (va_up a 0 2) 1 0) 2 0) 3 0) r) H := hP
  have hD : va_D A (tkw G ad (va_up (va_up (va_up (va_up a 0 2) 1 0) 2 0) 3 0) r) := hD
  refine lv_aload_n hx hb dX4_beAsAtFirst_20 rfl (lv_at hl 0 rfl) ?_
  refine lv_iconst (v := (nI 0)) hx hb dX4_beAsAtFirst_21 (by decide) ?_
  refine va_put (D := G.1) (ci := 3) (v := .int (nI 0)) (ty := .int) (C := RX4) (T := TX4) (N := 12) hx hb hts inA4 tyX4 tyX4_ok nmX4 hown hX.1 hP hD hS 0 rfl rfl 7 (by decide) (hts _ kw_94) (fun _ h9 => h9) rfl (by decide +kernel) rfl rfl (Nat.le_of_ble_eq_true rfl) dX4_beAsAtFirst_22 (fun H locs hP hD hS => ?_)
  have hP : va_P G.1 vwCl (tkw G ad (va_up (va_up (va_up (va_up (va_up a 0 2) 1 0) 2 0) 3 0) 7 0) r) H := hP
  have hD : va_D A (tkw G ad (va_up (va_up (va_up (va_up (va_up a 0 2) 1 0) 2 0) 3 0) 7 0) r) := hD
  refine lv_aload_n hx hb dX4_beAsAtFirst_25 rfl (lv_at hl 0 rfl) ?_
  refine lv_iconst (v := (nI 0)) hx hb dX4_beAsAtFirst_26 (by decide) ?_
  refine va_put (D := G.1) (ci := 3) (v := .int (nI 0)) (ty := .int) (C := RX4) (T := TX4) (N := 12) hx hb hts inA4 tyX4 tyX4_ok nmX4 hown hX.1 hP hD hS 0 rfl rfl 8 (by decide) (hts _ kw_98) (fun _ h9 => h9) rfl (by decide +kernel) rfl rfl (Nat.le_of_ble_eq_true rfl) dX4_beAsAtFirst_27 (fun H locs hP hD hS => ?_)
  have hP : va_P G.1 vwCl (tkw G ad (va_up (va_up (va_up (va_up (va_up (va_up a 0 2) 1 0) 2 0) 3 0) 7 0) 8 0) r) H := hP
  have hD : va_D A (tkw G ad (va_up (va_up (va_up (va_up (va_up (va_up a 0 2) 1 0) 2 0) 3 0) 7 0) 8 0) r) := hD
  refine lv_aload_n hx hb dX4_beAsAtFirst_30 rfl (lv_at hl 0 rfl) ?_
  refine lv_iconst (v := (nI 0)) hx hb dX4_beAsAtFirst_31 (by decide) ?_
  refine va_put (D := G.1) (ci := 3) (v := .int (nI 0)) (ty := .int) (C := RX4) (T := TX4) (N := 12) hx hb hts inA4 tyX4 tyX4_ok nmX4 hown hX.1 hP hD hS 0 rfl rfl 9 (by decide) (hts _ kw_100) (fun _ h9 => h9) rfl (by decide +kernel) rfl rfl (Nat.le_of_ble_eq_true rfl) dX4_beAsAtFirst_32 (fun H locs hP hD hS => ?_)
  have hP : va_P G.1 vwCl (tkw G ad (va_up (va_up (va_up (va_up (va_up (va_up (va_up a 0 2) 1 0) 2 0) 3 0) 7 0) 8 0) 9 0) r) H := hP
  have hD : va_D A (tkw G ad (va_up (va_up (va_up (va_up (va_up (va_up (va_up a 0 2) 1 0) 2 0) 3 0) 7 0) 8 0) 9 0) r) := hD
  refine lv_aload_n hx hb dX4_beAsAtFirst_35 rfl (lv_at hl 0 rfl) ?_
  refine lv_iconst (v := (nI 0)) hx hb dX4_beAsAtFirst_36 (by decide) ?_
  refine va_put (D := G.1) (ci := 3) (v := .int (nI 0)) (ty := .int) (C := RX4) (T := TX4) (N := 12) hx hb hts inA4 tyX4 tyX4_ok nmX4 hown hX.1 hP hD hS 0 rfl rfl 10 (by decide) (hts _ kw_103) (fun _ h9 => h9) rfl (by decide +kernel) rfl rfl (Nat.le_of_ble_eq_true rfl) dX4_beAsAtFirst_37 (fun H locs hP hD hS => ?_)
  have hP : va_P G.1 vwCl (tkw G ad (va_up (va_up (va_up (va_up (va_up (va_up (va_up (va_up a 0 2) 1 0) 2 0) 3 0) 7 0) 8 0) 9 0) 10 0) r) H := hP
  have hD : va_D A (tkw G ad (va_up (va_up (va_up (va_up (va_up (va_up (va_up (va_up a 0 2) 1 0) 2 0) 3 0) 7 0) 8 0) 9 0) 10 0) r) := hD
  exact re_v hx hb hr hlocks hS () hP hD trivial dX4_beAsAtFirst_40

theorem hdX4_become : hdOK yX4_become 1 := by decide +kernel
set_option maxHeartbeats 4000000 in
set_option maxRecDepth 100000 in
theorem mX4_become (l : Launch) (G : GG) (ad : Nat → Nat) (a : Nat → Nat) (r : Nat → Nat → Nat) (ad2 : Nat → Nat) (a2 : Nat → Nat) (r2 : Nat → Nat → Nat)  : Mv l yX4_become cX4_become 2 none (rmN 1 26) G [.ref (ad 0), .ref (ad2 0)] (tkw G ad a r ++ (tkw G ad2 a2 r2)) (fun (_ : Unit) => True) (fun (_ : Unit) => tkw G ad a2 r2 ++ (tkw G ad2 a2 r2)) := by
  refine Mv.of (cc := cX4_become) (nL := 2) (by decide) (Nat.le_of_ble_eq_true rfl) ?_
  intro p e s m below meth c A ls F hr hlocks hnm hX hA hD hP hS hl
  have F : CallFix p m c cX4_become 2 s [.ref (ad 0), .ref (ad2 0)].toArray wA RX4 := F
  obtain ⟨hx, hb, hml, hown, hts⟩ := id F
  have hl : lv_has ls 2 [(0, .ref (ad 0)), (1, .ref (ad2 0))] := hl
  refine lv_aload_n hx hb dX4_become_0 rfl (lv_at hl 0 rfl) ?_
  refine lv_aload_n hx hb dX4_become_1 rfl (lv_at hl 1 rfl) ?_
  refine va_get (D := G.1) (ci := 3) (v := .int (nI (a2 0))) (C := RX4) (T := TX4) (N := 12) hx hb hts inA4 hown hX.1 hP 5 rfl rfl 0 (by decide) (hts _ kw_62) (fun _ h9 => h9) rfl dX4_become_2 ?_
  refine va_put (D := G.1) (ci := 3) (v := .int (nI (a2 0))) (ty := .int) (C := RX4) (T := TX4) (N := 12) hx hb hts inA4 tyX4 tyX4_ok nmX4 hown hX.1 hP hD hS 0 rfl rfl 0 (by decide) (hts _ kw_62) (fun _ h9 => h9) rfl (by decide +kernel) rfl rfl (Nat.le_of_ble_eq_true rfl) dX4_become_5 (fun H locs hP hD hS => ?_)
  have hP : va_P G.1 vwCl (tkw G ad (va_up a 0 (a2 0)) r ++ (tkw G ad2 a2 r2)) H := hP
  have hD : va_D A (tkw G ad (va_up a 0 (a2 0)) r ++ (tkw G ad2 a2 r2)) := hD
  refine lv_aload_n hx hb dX4_become_8 rfl (lv_at hl 0 rfl) ?_
  refine lv_aload_n hx hb dX4_become_9 rfl (lv_at hl 1 rfl) ?_
  refine va_get (D := G.1) (ci := 3) (v := .int (nI (a2 1))) (C := RX4) (T := TX4) (N := 12) hx hb hts inA4 hown hX.1 hP 5 rfl rfl 1 (by decide) (hts _ kw_69) (fun _ h9 => h9) rfl dX4_become_10 ?_
  refine va_put (D := G.1) (ci := 3) (v := .int (nI (a2 1))) (ty := .int) (C := RX4) (T := TX4) (N := 12) hx hb hts inA4 tyX4 tyX4_ok nmX4 hown hX.1 hP hD hS 0 rfl rfl 1 (by decide) (hts _ kw_69) (fun _ h9 => h9) rfl (by decide +kernel) rfl rfl (Nat.le_of_ble_eq_true rfl) dX4_become_13 (fun H locs hP hD hS => ?_)
  have hP : va_P G.1 vwCl (tkw G ad (va_up (va_up a 0 (a2 0)) 1 (a2 1)) r ++ (tkw G ad2 a2 r2)) H := hP
  have hD : va_D A (tkw G ad (va_up (va_up a 0 (a2 0)) 1 (a2 1)) r ++ (tkw G ad2 a2 r2)) := hD
  refine lv_aload_n hx hb dX4_become_16 rfl (lv_at hl 0 rfl) ?_
  refine lv_aload_n hx hb dX4_become_17 rfl (lv_at hl 1 rfl) ?_
  refine va_get (D := G.1) (ci := 3) (v := .int (nI (a2 2))) (C := RX4) (T := TX4) (N := 12) hx hb hts inA4 hown hX.1 hP 5 rfl rfl 2 (by decide) (hts _ kw_72) (fun _ h9 => h9) rfl dX4_become_18 ?_
  refine va_put (D := G.1) (ci := 3) (v := .int (nI (a2 2))) (ty := .int) (C := RX4) (T := TX4) (N := 12) hx hb hts inA4 tyX4 tyX4_ok nmX4 hown hX.1 hP hD hS 0 rfl rfl 2 (by decide) (hts _ kw_72) (fun _ h9 => h9) rfl (by decide +kernel) rfl rfl (Nat.le_of_ble_eq_true rfl) dX4_become_21 (fun H locs hP hD hS => ?_)
  have hP : va_P G.1 vwCl (tkw G ad (va_up (va_up (va_up a 0 (a2 0)) 1 (a2 1)) 2 (a2 2)) r ++ (tkw G ad2 a2 r2)) H := hP
  have hD : va_D A (tkw G ad (va_up (va_up (va_up a 0 (a2 0)) 1 (a2 1)) 2 (a2 2)) r ++ (tkw G ad2 a2 r2)) := hD
  refine lv_aload_n hx hb dX4_become_24 rfl (lv_at hl 0 rfl) ?_
  refine lv_aload_n hx hb dX4_become_25 rfl (lv_at hl 1 rfl) ?_
  refine va_get (D := G.1) (ci := 3) (v := .int (nI (a2 3))) (C := RX4) (T := TX4) (N := 12) hx hb hts inA4 hown hX.1 hP 5 rfl rfl 3 (by decide) (hts _ kw_76) (fun _ h9 => h9) rfl dX4_become_26 ?_
  refine va_put (D := G.1) (ci := 3) (v := .int (nI (a2 3))) (ty := .int) (C := RX4) (T := TX4) (N := 12) hx hb hts inA4 tyX4 tyX4_ok nmX4 hown hX.1 hP hD hS 0 rfl rfl 3 (by decide) (hts _ kw_76) (fun _ h9 => h9) rfl (by decide +kernel) rfl rfl (Nat.le_of_ble_eq_true rfl) dX4_become_29 (fun H locs hP hD hS => ?_)
  have hP : va_P G.1 vwCl (tkw G ad (va_up (va_up (va_up (va_up a 0 (a2 0)) 1 (a2 1)) 2 (a2 2)) 3 (a2 3)) r ++ (tkw G ad2 a2 r2)) H := hP
  have hD : va_D A (tkw G ad (va_up (va_up (va_up (va_up a 0 (a2 0)) 1 (a2 1)) 2 (a2 2)) 3 (a2 3)) r ++ (tkw G ad2 a2 r2)) := hD
  refine lv_aload_n hx hb dX4_become_32 rfl (lv_at hl 1 rfl) ?_
  refine va_get (D := G.1) (ci := 3) (v := .ref (ad2 1)) (C := RX4) (T := TX4) (N := 12) hx hb hts inA4 hown hX.1 hP 5 rfl rfl 4 (by decide) (hts _ kw_82) (fun _ h9 => h9) rfl dX4_become_33 ?_
  refine lv_iconst (v := (nI 0)) hx hb dX4_become_36 (by decide) ?_
  refine lv_aload_n hx hb dX4_become_37 rfl (lv_at hl 0 rfl) ?_
  refine va_get (D := G.1) (ci := 3) (v := .ref (ad 1)) (C := RX4) (T := TX4) (N := 12) hx hb hts inA4 hown hX.1 hP 0 rfl rfl 4 (by decide) (hts _ kw_82) (fun _ h9 => h9) rfl dX4_become_38 ?_
  refine lv_iconst (v := (nI 0)) hx hb dX4_become_41 (by decide) ?_
  refine lv_bipush (v := (nI 12)) hx hb dX4_become_42 (by decide) ?_
  refine nv_cpyF (rest := []) (f := r2 0) (g := r 0) F hl.1 hX kw_374 kw_376 kw_375 kw_13 hP hD hS 6 1 rfl rfl (by decide) (by decide) (Nat.le_of_ble_eq_true rfl) dX4_become_44 (fun H locs hP hD hS => ?_)
  have hP : va_P G.1 vwCl (tkw G ad (va_up (va_up (va_up (va_up a 0 (a2 0)) 1 (a2 1)) 2 (a2 2)) 3 (a2 3)) (va_up r 0 (r2 0)) ++ (tkw G ad2 a2 r2)) H := hP
  have hD : va_D A (tkw G ad (va_up (va_up (va_up (va_up a 0 (a2 0)) 1 (a2 1)) 2 (a2 2)) 3 (a2 3)) (va_up r 0 (r2 0)) ++ (tkw G ad2 a2 r2)) := hD
  refine lv_aload_n hx hb dX4_become_47 rfl (lv_at hl 1 rfl) ?_
  refine va_get (D := G.1) (ci := 3) (v := .ref (ad2 2)) (C := RX4) (T := TX4) (N := 12) hx hb hts inA4 hown hX.1 hP 5 rfl rfl 5 (by decide) (hts _ kw_85) (fun _ h9 => h9) rfl dX4_become_48 ?_
  refine lv_iconst (v := (nI 0)) hx hb dX4_become_51 (by decide) ?_
  refine lv_aload_n hx hb dX4_become_52 rfl (lv_at hl 0 rfl) ?_
  refine va_get (D := G.1) (ci := 3) (v := .ref (ad 2)) (C := RX4) (T := TX4) (N := 12) hx hb hts inA4 hown hX.1 hP 0 rfl rfl 5 (by decide) (hts _ kw_85) (fun _ h9 => h9) rfl dX4_become_53 ?_
  refine lv_iconst (v := (nI 0)) hx hb dX4_become_56 (by decide) ?_
  refine lv_bipush (v := (nI 12)) hx hb dX4_become_57 (by decide) ?_
  refine nv_cpyF (rest := []) (f := r2 1) (g := r 1) F hl.1 hX kw_374 kw_376 kw_375 kw_13 hP hD hS 7 2 rfl rfl (by decide) (by decide) (Nat.le_of_ble_eq_true rfl) dX4_become_59 (fun H locs hP hD hS => ?_)
  have hP : va_P G.1 vwCl (tkw G ad (va_up (va_up (va_up (va_up a 0 (a2 0)) 1 (a2 1)) 2 (a2 2)) 3 (a2 3)) (va_up (va_up r 0 (r2 0)) 1 (r2 1)) ++ (tkw G ad2 a2 r2)) H := hP
  have hD : va_D A (tkw G ad (va_up (va_up (va_up (va_up a 0 (a2 0)) 1 (a2 1)) 2 (a2 2)) 3 (a2 3)) (va_up (va_up r 0 (r2 0)) 1 (r2 1)) ++ (tkw G ad2 a2 r2)) := hD
  refine lv_aload_n hx hb dX4_become_62 rfl (lv_at hl 1 rfl) ?_
  refine va_get (D := G.1) (ci := 3) (v := .ref (ad2 3)) (C := RX4) (T := TX4) (N := 12) hx hb hts inA4 hown hX.1 hP 5 rfl rfl 6 (by decide) (hts _ kw_88) (fun _ h9 => h9) rfl dX4_become_63 ?_
  refine lv_iconst (v := (nI 0)) hx hb dX4_become_66 (by decide) ?_
  refine lv_aload_n hx hb dX4_become_67 rfl (lv_at hl 0 rfl) ?_
  refine va_get (D := G.1) (ci := 3) (v := .ref (ad 3)) (C := RX4) (T := TX4) (N := 12) hx hb hts inA4 hown hX.1 hP 0 rfl rfl 6 (by decide) (hts _ kw_88) (fun _ h9 => h9) rfl dX4_become_68 ?_
  refine lv_iconst (v := (nI 0)) hx hb dX4_become_71 (by decide) ?_
  refine lv_bipush (v := (nI 12)) hx hb dX4_become_72 (by decide) ?_
  refine nv_cpyF (rest := []) (f := r2 2) (g := r 2) F hl.1 hX kw_374 kw_376 kw_375 kw_13 hP hD hS 8 3 rfl rfl (by decide) (by decide) (Nat.le_of_ble_eq_true rfl) dX4_become_74 (fun H locs hP hD hS => ?_)
  have hP : va_P G.1 vwCl (tkw G ad (va_up (va_up (va_up (va_up a 0 (a2 0)) 1 (a2 1)) 2 (a2 2)) 3 (a2 3)) (va_up (va_up (va_up r 0 (r2 0)) 1 (r2 1)) 2 (r2 2)) ++ (tkw G ad2 a2 r2)) H := hP
  have hD : va_D A (tkw G ad (va_up (va_up (va_up (va_up a 0 (a2 0)) 1 (a2 1)) 2 (a2 2)) 3 (a2 3)) (va_up (va_up (va_up r 0 (r2 0)) 1 (r2 1)) 2 (r2 2)) ++ (tkw G ad2 a2 r2)) := hD
  refine lv_aload_n hx hb dX4_become_77 rfl (lv_at hl 0 rfl) ?_
  refine lv_aload_n hx hb dX4_become_78 rfl (lv_at hl 1 rfl) ?_
  refine va_get (D := G.1) (ci := 3) (v := .int (nI (a2 7))) (C := RX4) (T := TX4) (N := 12) hx hb hts inA4 hown hX.1 hP 5 rfl rfl 7 (by decide) (hts _ kw_94) (fun _ h9 => h9) rfl dX4_become_79 ?_
  refine va_put (D := G.1) (ci := 3) (v := .int (nI (a2 7))) (ty := .int) (C := RX4) (T := TX4) (N := 12) hx hb hts inA4 tyX4 tyX4_ok nmX4 hown hX.1 hP hD hS 0 rfl rfl 7 (by decide) (hts _ kw_94) (fun _ h9 => h9) rfl (by decide +kernel) rfl rfl (Nat.le_of_ble_eq_true rfl) dX4_become_82 (fun H locs hP hD hS => ?_)
  have hP : va_P G.1 vwCl (tkw G ad (va_up (va_up (va_up (va_up (va_up a 0 (a2 0)) 1 (a2 1)) 2 (a2 2)) 3 (a2 3)) 7 (a2 7)) (va_up (va_up (va_up r 0 (r2 0)) 1 (r2 1)) 2 (r2 2)) ++ (tkw G ad2 a2 r2)) H := hP
  have hD : va_D A (tkw G ad (va_up (va_up (va_up (va_up (va_up a 0 (a2 0)) 1 (a2 1)) 2 (a2 2)) 3 (a2 3)) 7 (a2 7)) (va_up (va_up (va_up r 0 (r2 0)) 1 (r2 1)) 2 (r2 2)) ++ (tkw G ad2 a2 r2)) := hD
  refine lv_aload_n hx hb dX4_become_85 rfl (lv_at hl 0 rfl) ?_
  refine lv_aload_n hx hb dX4_become_86 rfl (lv_at hl 1 rfl) ?_
  refine va_get (D := G.1) (ci := 3) (v := .int (nI (a2 8))) (C := RX4) (T := TX4) (N := 12) hx hb hts inA4 hown hX.1 hP 5 rfl rfl 8 (by decide) (hts _ kw_98) (fun _ h9 => h9) rfl dX4_become_87 ?_
  refine va_put (D := G.1) (ci := 3) (v := .int (nI (a2 8))) (ty := .int) (C := RX4) (T := TX4) (N := 12) hx hb hts inA4 tyX4 tyX4_ok nmX4 hown hX.1 hP hD hS 0 rfl rfl 8 (by decide) (hts _ kw_98) (fun _ h9 => h9) rfl (by decide +kernel) rfl rfl (Nat.le_of_ble_eq_true rfl) dX4_become_90 (fun H locs hP hD hS => ?_)
  have hP : va_P G.1 vwCl (tkw G ad (va_up (va_up (va_up (va_up (va_up (va_up a 0 (a2 0)) 1 (a2 1)) 2 (a2 2)) 3 (a2 3)) 7 (a2 7)) 8 (a2 8)) (va_up (va_up (va_up r 0 (r2 0)) 1 (r2 1)) 2 (r2 2)) ++ (tkw G ad2 a2 r2)) H := hP
  have hD : va_D A (tkw G ad (va_up (va_up (va_up (va_up (va_up (va_up a 0 (a2 0)) 1 (a2 1)) 2 (a2 2)) 3 (a2 3)) 7 (a2 7)) 8 (a2 8)) (va_up (va_up (va_up r 0 (r2 0)) 1 (r2 1)) 2 (r2 2)) ++ (tkw G ad2 a2 r2)) := hD
  refine lv_aload_n hx hb dX4_become_93 rfl (lv_at hl 0 rfl) ?_
  refine lv_aload_n hx hb dX4_become_94 rfl (lv_at hl 1 rfl) ?_
  refine va_get (D := G.1) (ci := 3) (v := .int (nI (a2 9))) (C := RX4) (T := TX4) (N := 12) hx hb hts inA4 hown hX.1 hP 5 rfl rfl 9 (by decide) (hts _ kw_100) (fun _ h9 => h9) rfl dX4_become_95 ?_
  refine va_put (D := G.1) (ci := 3) (v := .int (nI (a2 9))) (ty := .int) (C := RX4) (T := TX4) (N := 12) hx hb hts inA4 tyX4 tyX4_ok nmX4 hown hX.1 hP hD hS 0 rfl rfl 9 (by decide) (hts _ kw_100) (fun _ h9 => h9) rfl (by decide +kernel) rfl rfl (Nat.le_of_ble_eq_true rfl) dX4_become_98 (fun H locs hP hD hS => ?_)
  have hP : va_P G.1 vwCl (tkw G ad (va_up (va_up (va_up (va_up (va_up (va_up (va_up a 0 (a2 0)) 1 (a2 1)) 2 (a2 2)) 3 (a2 3)) 7 (a2 7)) 8 (a2 8)) 9 (a2 9)) (va_up (va_up (va_up r 0 (r2 0)) 1 (r2 1)) 2 (r2 2)) ++ (tkw G ad2 a2 r2)) H := hP
  have hD : va_D A (tkw G ad (va_up (va_up (va_up (va_up (va_up (va_up (va_up a 0 (a2 0)) 1 (a2 1)) 2 (a2 2)) 3 (a2 3)) 7 (a2 7)) 8 (a2 8)) 9 (a2 9)) (va_up (va_up (va_up r 0 (r2 0)) 1 (r2 1)) 2 (r2 2)) ++ (tkw G ad2 a2 r2)) := hD
  refine lv_aload_n hx hb dX4_become_101 rfl (lv_at hl 0 rfl) ?_
  refine lv_aload_n hx hb dX4_become_102 rfl (lv_at hl 1 rfl) ?_
  refine va_get (D := G.1) (ci := 3) (v := .int (nI (a2 10))) (C := RX4) (T := TX4) (N := 12) hx hb hts inA4 hown hX.1 hP 5 rfl rfl 10 (by decide) (hts _ kw_103) (fun _ h9 => h9) rfl dX4_become_103 ?_
  refine va_put (D := G.1) (ci := 3) (v := .int (nI (a2 10))) (ty := .int) (C := RX4) (T := TX4) (N := 12) hx hb hts inA4 tyX4 tyX4_ok nmX4 hown hX.1 hP hD hS 0 rfl rfl 10 (by decide) (hts _ kw_103) (fun _ h9 => h9) rfl (by decide +kernel) rfl rfl (Nat.le_of_ble_eq_true rfl) dX4_become_106 (fun H locs hP hD hS => ?_)
  have hP : va_P G.1 vwCl (tkw G ad (va_up (va_up (va_up (va_up (va_up (va_up (va_up (va_up a 0 (a2 0)) 1 (a2 1)) 2 (a2 2)) 3 (a2 3)) 7 (a2 7)) 8 (a2 8)) 9 (a2 9)) 10 (a2 10)) (va_up (va_up (va_up r 0 (r2 0)) 1 (r2 1)) 2 (r2 2)) ++ (tkw G ad2 a2 r2)) H := hP
  have hD : va_D A (tkw G ad (va_up (va_up (va_up (va_up (va_up (va_up (va_up (va_up a 0 (a2 0)) 1 (a2 1)) 2 (a2 2)) 3 (a2 3)) 7 (a2 7)) 8 (a2 8)) 9 (a2 9)) 10 (a2 10)) (va_up (va_up (va_up r 0 (r2 0)) 1 (r2 1)) 2 (r2 2)) ++ (tkw G ad2 a2 r2)) := hD
  refine lv_aload_n hx hb dX4_become_109 rfl (lv_at hl 1 rfl) ?_
  refine va_get (D := G.1) (ci := 3) (v := .ref (ad2 4)) (C := RX4) (T := TX4) (N := 12) hx hb hts inA4 hown hX.1 hP 5 rfl rfl 11 (by decide) (hts _ kw_106) (fun _ h9 => h9) rfl dX4_become_110 ?_
  refine lv_iconst (v := (nI 0)) hx hb dX4_become_113 (by decide) ?_
  refine lv_aload_n hx hb dX4_become_114 rfl (lv_at hl 0 rfl) ?_
  refine va_get (D := G.1) (ci := 3) (v := .ref (ad 4)) (C := RX4) (T := TX4) (N := 12) hx hb hts inA4 hown hX.1 hP 0 rfl rfl 11 (by decide) (hts _ kw_106) (fun _ h9 => h9) rfl dX4_become_115 ?_
  refine lv_iconst (v := (nI 0)) hx hb dX4_become_118 (by decide) ?_
  refine lv_bipush (v := (nI 7)) hx hb dX4_become_119 (by decide) ?_
  refine nv_cpyF (rest := []) (f := r2 3) (g := r 3) F hl.1 hX kw_374 kw_376 kw_375 kw_13 hP hD hS 9 4 rfl rfl (by decide) (by decide) (Nat.le_of_ble_eq_true rfl) dX4_become_121 (fun H locs hP hD hS => ?_)
  have hP : va_P G.1 vwCl (tkw G ad (va_up (va_up (va_up (va_up (va_up (va_up (va_up (va_up a 0 (a2 0)) 1 (a2 1)) 2 (a2 2)) 3 (a2 3)) 7 (a2 7)) 8 (a2 8)) 9 (a2 9)) 10 (a2 10)) (va_up (va_up (va_up (va_up r 0 (r2 0)) 1 (r2 1)) 2 (r2 2)) 3 (r2 3)) ++ (tkw G ad2 a2 r2)) H := hP
  have hD : va_D A (tkw G ad (va_up (va_up (va_up (va_up (va_up (va_up (va_up (va_up a 0 (a2 0)) 1 (a2 1)) 2 (a2 2)) 3 (a2 3)) 7 (a2 7)) 8 (a2 8)) 9 (a2 9)) 10 (a2 10)) (va_up (va_up (va_up (va_up r 0 (r2 0)) 1 (r2 1)) 2 (r2 2)) 3 (r2 3)) ++ (tkw G ad2 a2 r2)) := hD
  exact re_v hx hb hr hlocks hS () hP hD trivial dX4_become_124
end
section
/-! ways: the pure words -/
abbrev NW : Nat := 1048576
def shr (w : Nat → Nat) (x y wt : Nat) : Nat → Nat := va_up (va_up w x (min (w x) (w y + wt))) y (min ((va_up w x (min (w x) (w y + wt))) y) ((va_up w x (min (w x) (w y + wt))) x + wt))
theorem up_le {w : Nat → Nat} {x v N : Nat} (h : ∀ j, w j ≤ N) (hv : v ≤ N) : ∀ j, va_up w x v j ≤ N := by
  intro j
  unfold va_up
  split
  · exact hv
  · exact h j
theorem shr_le {w : Nat → Nat} {x y wt N : Nat} (h : ∀ j, w j ≤ N) : ∀ j, shr w x y wt j ≤ N := by
  have h1 : ∀ j, va_up w x (min (w x) (w y + wt)) j ≤ N := up_le h (Nat.le_trans (Nat.min_le_left _ _) (h x))
  exact up_le h1 (Nat.le_trans (Nat.min_le_left _ _) (h1 y))
def rlx (f g c : Nat → Nat) (us : Nat) : Nat → (Nat → Nat) → (Nat → Nat)
  | 0, w => w
  | k + 1, w => if us.testBit k then shr (rlx f g c us k w) (f k) (g k) (c k * 16 + 1) else rlx f g c us k w
theorem rlx_le {f g c : Nat → Nat} {us N : Nat} {w : Nat → Nat} (h : ∀ j, w j ≤ N) : ∀ k j, rlx f g c us k w j ≤ N
  | 0 => h
  | k + 1 => by
    unfold rlx
    split
    · exact shr_le (rlx_le h k)
    · exact rlx_le h k
def rln (f g c : Nat → Nat) (us L : Nat) : Nat → (Nat → Nat) → (Nat → Nat)
  | 0, w => w
  | n + 1, w => rlx f g c us L (rln f g c us L n w)
theorem rln_le {f g c : Nat → Nat} {us L N : Nat} {w : Nat → Nat} (h : ∀ j, w j ≤ N) : ∀ n j, rln f g c us L n w j ≤ N
  | 0 => h
  | n + 1 => rlx_le (rln_le h n) L
def ini (goals : Nat) : Nat → (Nat → Nat)
  | 0 => fun _ => 1048576
  | v + 1 => if goals.testBit v then va_up (ini goals v) v 0 else ini goals v
theorem ini_le (goals : Nat) : ∀ v j, ini goals v j ≤ 1048576
  | 0 => fun _ => Nat.le_refl _
  | v + 1 => by
    unfold ini
    split
    · exact up_le (ini_le goals v) (Nat.zero_le _)
    · exact ini_le goals v
/-- the weights of all nodes to some goals -/
def wtN (f g c : Nat → Nat) (us L n goals : Nat) : Nat → Nat := rln f g c us L (n - 1) (ini goals n)
theorem wtN_le (f g c : Nat → Nat) (us L n goals : Nat) : ∀ j, wtN f g c us L n goals j ≤ 1048576 := rln_le (ini_le goals n) (n - 1)
def cfr (w : Nat → Nat) (v : Nat) : Option Nat := if w v < 1048576 then some (w v / 16) else none
def sfr (w : Nat → Nat) (v : Nat) : Option Nat := if w v < 1048576 then some (w v % 16) else none
def nxt (f g : Nat → Nat) (k v : Nat) : Nat := if f k = v then g k else f k
theorem nxt_lt {f g : Nat → Nat} (hf : ∀ j, f j < 7) (hg : ∀ j, g j < 7) (k v : Nat) : nxt f g k v < 7 := by
  unfold nxt
  split
  · exact hg k
  · exact hf k
/-- the first link of a node's way among the first k, and where it leads -/
def fsS (f g c w : Nat → Nat) (us v : Nat) : Nat → Option Nat × Nat
  | 0 => (none, 7)
  | k + 1 => if us.testBit k = true ∧ (edg f g k).testBit v = true ∧ nxt f g k v < (fsS f g c w us v k).2 ∧ w (nxt f g k v) + (c k * 16 + 1) = w v then (some k, nxt f g k v) else fsS f g c w us v k
theorem fsS_le (f g c w : Nat → Nat) (us v : Nat) : ∀ k, (fsS f g c w us v k).2 ≤ 7
  | 0 => Nat.le_refl _
  | k + 1 => by
    have h := fsS_le f g c w us v k
    unfold fsS
    split
    · rename_i h2
      show nxt f g k v ≤ 7
      omega
    · exact h
theorem fsS_lt {f g c w : Nat → Nat} {us v : Nat} : ∀ {k j : Nat}, (fsS f g c w us v k).1 = some j → j < k
  | 0, j, h => by cases h
  | k + 1, j, h => by
    unfold fsS at h
    split at h
    · cases h; omega
    · have := fsS_lt h; omega
def fsO (f g c w : Nat → Nat) (us L v : Nat) : Option Nat := (fsS f g c w us v L).1
theorem fsO_lt {f g c w : Nat → Nat} {us L v j : Nat} (h : fsO f g c w us L v = some j) : j < L := fsS_lt h
/-- all links of a node's way, n at most -/
def lfr (f g c w : Nat → Nat) (us L : Nat) : Nat → Nat → Nat → Nat
  | 0, _, set => set
  | n + 1, v, set => match fsO f g c w us L v with
    | none => set
    | some k => lfr f g c w us L n (nxt f g k v) (set ||| 2 ^ k)
theorem lfr_lt {f g c w : Nat → Nat} {us L : Nat} (hL : L ≤ 12) : ∀ (n v set : Nat), set < 4096 → lfr f g c w us L n v set < 4096
  | 0, _, _, h => h
  | n + 1, v, set, h => by
    unfold lfr
    cases h1 : fsO f g c w us L v with
    | none => exact h
    | some k => exact lfr_lt hL n _ _ (or_lt (n := 12) h (pw_lt (by have := fsO_lt h1; omega)))
/-- the link of a way n steps on -/
def saN (f g c w : Nat → Nat) (us L : Nat) : Nat → Nat → Option Nat → Option Nat
  | 0, _, o => o
  | _ + 1, _, none => none
  | n + 1, v, some k => saN f g c w us L n (nxt f g k v) (fsO f g c w us L (nxt f g k v))
end
section
theorem hdJ7_fill_53178 : hdOK yJ7_fill_53178 2 := by decide +kernel
set_option maxHeartbeats 4000000 in
set_option maxRecDepth 100000 in
theorem mJ7_fill_53178 (l : Launch) (G : GG) (wd : Nat → Nat) (w : Nat → Nat) (us : Nat) (x : Nat)  : Mv l yJ7_fill_53178 cJ7_fill_53178 4 none (rmN 0 0) G [.ref (wd 1), .int (nI x)] (wyw G wd w us) (fun (_ : Unit) => True) (fun (_ : Unit) => wyw G wd (fun _ => x) us) := by
  refine Mv.of (cc := cJ7_fill_53178) (nL := 4) (by decide) (Nat.le_of_ble_eq_true rfl) ?_
  intro p e s m below meth c A ls F hr hlocks hnm hX hA hD hP hS hl
  have F : CallFix p m c cJ7_fill_53178 4 s [.ref (wd 1), .int (nI x)].toArray wA RJ7 := F
  obtain ⟨hx, hb, hml, hown, hts⟩ := id F
  have hl : lv_has ls 4 [(0, .ref (wd 1)), (1, .int (nI x))] := hl
  refine lv_iconst (v := (nI 0)) hx hb dJ7_fill_53178_0 (by decide) ?_
  refine lv_istore_n (lv' := [(2, .int (nI 0)), (0, .ref (wd 1)), (1, .int (nI x))]) hx hb dJ7_fill_53178_1 rfl hl (by decide) rfl (fun ls hl => ?_)
  refine lv_aload_n hx hb dJ7_fill_53178_2 rfl (lv_at hl 1 rfl) ?_
  refine va_alen (v := (nI 7)) hx hb hX.1 hP 1 0 rfl rfl rfl dJ7_fill_53178_3 ?_
  refine lv_istore_n (lv' := [(3, .int (nI 7)), (2, .int (nI 0)), (0, .ref (wd 1)), (1, .int (nI x))]) hx hb dJ7_fill_53178_4 rfl hl (by decide) rfl (fun ls hl => ?_)
  have lp5 : ∀ (n5 : Nat) (k : Nat) (y : Nat → Nat), (7 - k) < n5 → (k ≤ 7) → (∀ j, j < k → y j = x) → ∀ (H : Heap) (locs : List Loc), va_P G.1 vwCl (wyw G wd y us) H → va_D A (wyw G wd y us) → va_S A s.heap H locs → ∀ (ls : Array Slot), lv_has ls 4 [(0, .ref (wd 1)), (1, .int (nI x)), (2, .int (nI k)), (3, .int (nI 7))] → WV p l e (rmN 0 0) s m [.ref (wd 1), .int (nI x)] below meth c H locs G A (fun (_ : Unit) => True) (fun (_ : Unit) => wyw G wd (fun _ => x) us) (F0 m 5 ls []) := by
    intro n5
    induction n5 with
    | zero => intro k y h9; exact absurd h9 (Nat.not_lt_zero _)
    | succ n5 ih5 =>
      intro k y hm5  hk hy H locs hP hD hS ls hl
      refine lv_iload_n hx hb dJ7_fill_53178_5 rfl (lv_at hl 2 rfl) ?_
      refine lv_iload_n hx hb dJ7_fill_53178_6 rfl (lv_at hl 3 rfl) ?_
      refine nv_ge (x := k) (y := 7) (tgt := 20) hx hb dJ7_fill_53178_7 (by decide) (by omega) (by decide) (fun c7 => ?_) (fun c7 => ?_)
      · have hP : va_P G.1 vwCl (wyw G wd (fun _ => x) us) H := wp_set (ws := wyw G wd y us) (q0 := 1) (fun j hj => by rw [hy j (by omega)]) hP
        have hD : va_D A (wyw G wd (fun _ => x) us) := wd_set (ws := wyw G wd y us) (q0 := 1) hD
        exact re_v hx hb hr hlocks hS () hP hD trivial dJ7_fill_53178_20
      · refine lv_aload_n hx hb dJ7_fill_53178_10 rfl (lv_at hl 0 rfl) ?_
        refine lv_iload_n hx hb dJ7_fill_53178_11 rfl (lv_at hl 2 rfl) ?_
        refine lv_iload_n hx hb dJ7_fill_53178_12 rfl (lv_at hl 1 rfl) ?_
        refine nv_ast (f := y) (k := k) (v := x) hx hb hX hP hD hS 1 rfl (by omega) (by decide) dJ7_fill_53178_13 (fun H locs hP hD hS => ?_)
        have hP : va_P G.1 vwCl (wyw G wd (va_up y k x) us) H := hP
        have hD : va_D A (wyw G wd (va_up y k x) us) := hD
        refine lv_iinc (v := (nI (k + 1))) (lv' := [(2, .int (nI (k + 1))), (0, .ref (wd 1)), (1, .int (nI x)), (3, .int (nI 7))]) hx hb dJ7_fill_53178_14 hl (k := 2) rfl (qn_inc _) (by decide) rfl (fun ls hl => ?_)
        refine lv_goto (tgt := 5) hx hb dJ7_fill_53178_17 (by decide) ?_
        exact ih5 (k + 1) (va_up y k x) (by omega) (by omega) (fun j h => by unfold va_up; split; rfl; exact hy j (by omega)) _ _ hP hD hS ls (lv_sub hl [1, 2, 0, 3] rfl)
  exact lp5 _ 0 w (Nat.lt_succ_self _) (Nat.zero_le _) (fun j h => absurd h (Nat.not_lt_zero _)) _ _ hP hD hS ls (lv_sub hl [2, 3, 1, 0] rfl)

theorem hdX6_weightOf : hdOK yX6_weightOf 2 := by decide +kernel
set_option maxHeartbeats 4000000 in
set_option maxRecDepth 100000 in
theorem mX6_weightOf (l : Launch) (G : GG) (ad : Nat → Nat) (a : Nat → Nat) (r : Nat → Nat → Nat) (k : Nat) (hk : k < 12) : Mi l yX6_weightOf cX6_weightOf 2 (some .int) (rmN 0 0) G [.ref (ad 0), .int (nI k)] (tkw G ad a r) (fun (r9 : Int32) (_ : Unit) => r9 = (nI (r 2 k * 16 + 1))) (fun (_ : Unit) => tkw G ad a r) := by
  refine Mi.of (cc := cX6_weightOf) (nL := 2) (by decide) (Nat.le_of_ble_eq_true rfl) ?_
  intro p e s m below meth c A ls F hr hlocks hnm hX hA hD hP hS hl
  have F : CallFix p m c cX6_weightOf 2 s [.ref (ad 0), .int (nI k)].toArray wA RX6 := F
  obtain ⟨hx, hb, hml, hown, hts⟩ := id F
  have hl : lv_has ls 2 [(0, .ref (ad 0)), (1, .int (nI k))] := hl
  refine lv_aload_n hx hb dX6_weightOf_0 rfl (lv_at hl 0 rfl) ?_
  refine va_get (D := G.1) (ci := 3) (v := .ref (ad 3)) (C := RX4) (T := TX4) (N := 12) hx hb hts inA4 hown hX.1 hP 0 rfl rfl 6 (by decide) (hts _ kw_89) (fun _ h9 => h9) rfl dX6_weightOf_1 ?_
  refine lv_iload_n hx hb dX6_weightOf_4 rfl (lv_at hl 1 rfl) ?_
  refine nv_ald (f := r 2) (k := k) hx hb hX hP 3 rfl (by omega) (by decide) dX6_weightOf_5 ?_
  refine lv_bipush (v := (nI 16)) hx hb dX6_weightOf_6 (by decide) ?_
  refine lv_imul hx hb dX6_weightOf_8 (ti (y := (nI (((r 2) k) * 16))) (pk_mul _ _) ?_)
  refine lv_iconst (v := (nI 1)) hx hb dX6_weightOf_9 (by decide) ?_
  refine lv_iadd hx hb dX6_weightOf_10 (ti (y := (nI ((((r 2) k) * 16) + 1))) (nI_add _ _) ?_)
  exact re_i (v := (nI ((((r 2) k) * 16) + 1))) hx hb hr hlocks hS () hP hD rfl dX6_weightOf_11

theorem hdX6_nextNode : hdOK yX6_nextNode 3 := by decide +kernel
set_option maxHeartbeats 4000000 in
set_option maxRecDepth 100000 in
theorem mX6_nextNode (l : Launch) (G : GG) (ad : Nat → Nat) (a : Nat → Nat) (r : Nat → Nat → Nat) (k v : Nat) (hT : TB a r) (hk : k < 12) (hv : v < 7) : Mi l yX6_nextNode cX6_nextNode 3 (some .int) (rmN 0 0) G [.ref (ad 0), .int (nI k), .int (nI v)] (tkw G ad a r) (fun (r9 : Int32) (_ : Unit) => r9 = (nI (nxt (r 0) (r 1) k v))) (fun (_ : Unit) => tkw G ad a r) := by
  refine Mi.of (cc := cX6_nextNode) (nL := 3) (by decide) (Nat.le_of_ble_eq_true rfl) ?_
  intro p e s m below meth c A ls F hr hlocks hnm hX hA hD hP hS hl
  have F : CallFix p m c cX6_nextNode 3 s [.ref (ad 0), .int (nI k), .int (nI v)].toArray wA RX6 := F
  obtain ⟨hx, hb, hml, hown, hts⟩ := id F
  have hl : lv_has ls 3 [(0, .ref (ad 0)), (1, .int (nI k)), (2, .int (nI v))] := hl
  obtain ⟨t0, t1, t2, t3, t4, t5, t6, t7, t8, t9, t10, t11, t12⟩ := id hT
  refine lv_aload_n hx hb dX6_nextNode_0 rfl (lv_at hl 0 rfl) ?_
  refine va_get (D := G.1) (ci := 3) (v := .ref (ad 1)) (C := RX4) (T := TX4) (N := 12) hx hb hts inA4 hown hX.1 hP 0 rfl rfl 4 (by decide) (hts _ kw_83) (fun _ h9 => h9) rfl dX6_nextNode_1 ?_
  refine lv_iload_n hx hb dX6_nextNode_4 rfl (lv_at hl 1 rfl) ?_
  refine nv_ald (f := r 0) (k := k) hx hb hX hP 1 rfl (by omega) (by decide) dX6_nextNode_5 ?_
  refine lv_iload_n hx hb dX6_nextNode_6 rfl (lv_at hl 2 rfl) ?_
  refine nv_ne (x := (r 0) k) (y := v) (tgt := 19) hx hb dX6_nextNode_7 (by decide) (by have := t5 k; omega) (by omega) (fun c7 => ?_) (fun c7 => ?_)
  · refine lv_aload_n hx hb dX6_nextNode_19 rfl (lv_at hl 0 rfl) ?_
    refine va_get (D := G.1) (ci := 3) (v := .ref (ad 1)) (C := RX4) (T := TX4) (N := 12) hx hb hts inA4 hown hX.1 hP 0 rfl rfl 4 (by decide) (hts _ kw_83) (fun _ h9 => h9) rfl dX6_nextNode_20 ?_
    refine lv_iload_n hx hb dX6_nextNode_23 rfl (lv_at hl 1 rfl) ?_
    refine nv_ald (f := r 0) (k := k) hx hb hX hP 1 rfl (by omega) (by decide) dX6_nextNode_24 ?_
    exact re_i (v := (nI ((r 0) k))) hx hb hr hlocks hS () hP hD (by simp [nxt, c7]) dX6_nextNode_25
  · refine lv_aload_n hx hb dX6_nextNode_10 rfl (lv_at hl 0 rfl) ?_
    refine va_get (D := G.1) (ci := 3) (v := .ref (ad 2)) (C := RX4) (T := TX4) (N := 12) hx hb hts inA4 hown hX.1 hP 0 rfl rfl 5 (by decide) (hts _ kw_86) (fun _ h9 => h9) rfl dX6_nextNode_11 ?_
    refine lv_iload_n hx hb dX6_nextNode_14 rfl (lv_at hl 1 rfl) ?_
    refine nv_ald (f := r 1) (k := k) hx hb hX hP 2 rfl (by omega) (by decide) dX6_nextNode_15 ?_
    refine lv_goto (tgt := 25) hx hb dX6_nextNode_16 (by decide) ?_
    exact re_i (v := (nI ((r 1) k))) hx hb hr hlocks hS () hP hD (by simp [nxt, c7]) dX6_nextNode_25

theorem hdX6_shorten : hdOK yX6_shorten 3 := by decide +kernel
set_option maxHeartbeats 4000000 in
set_option maxRecDepth 100000 in
theorem mX6_shorten (l : Launch) (G : GG) (wd : Nat → Nat) (w : Nat → Nat) (us : Nat) (x y z : Nat) (hw : ∀ j, w j ≤ 1048576) (hx7 : x < 7) (hy7 : y < 7) (hz : z < 1000) : Mv l yX6_shorten cX6_shorten 4 none (rmN 1 21) G [.ref (wd 0), .int (nI x), .int (nI y), .int (nI z)] (wyw G wd w us) (fun (_ : Unit) => True) (fun (_ : Unit) => wyw G wd (shr w x y z) us) := by
  refine Mv.of (cc := cX6_shorten) (nL := 4) (by decide) (Nat.le_of_ble_eq_true rfl) ?_
  intro p e s m below meth c A ls F hr hlocks hnm hX hA hD hP hS hl
  have F : CallFix p m c cX6_shorten 4 s [.ref (wd 0), .int (nI x), .int (nI y), .int (nI z)].toArray wA RX6 := F
  obtain ⟨hx, hb, hml, hown, hts⟩ := id F
  have hl : lv_has ls 4 [(0, .ref (wd 0)), (1, .int (nI x)), (2, .int (nI y)), (3, .int (nI z))] := hl
  have hw1 : ∀ j, va_up w x (min (w x) (w y + z)) j ≤ 1048576 := up_le hw (Nat.le_trans (Nat.min_le_left _ _) (hw x))
  refine lv_aload_n hx hb dX6_shorten_0 rfl (lv_at hl 0 rfl) ?_
  refine va_get (D := G.1) (ci := 5) (v := .ref (wd 1)) (C := RX6) (T := TX6) (N := 2) hx hb hts inA6 hown hX.1 hP 0 rfl rfl 0 (by decide) (hts _ kw_164) (fun _ h9 => h9) rfl dX6_shorten_1 ?_
  refine lv_iload_n hx hb dX6_shorten_4 rfl (lv_at hl 1 rfl) ?_
  refine lv_aload_n hx hb dX6_shorten_5 rfl (lv_at hl 0 rfl) ?_
  refine va_get (D := G.1) (ci := 5) (v := .ref (wd 1)) (C := RX6) (T := TX6) (N := 2) hx hb hts inA6 hown hX.1 hP 0 rfl rfl 0 (by decide) (hts _ kw_164) (fun _ h9 => h9) rfl dX6_shorten_6 ?_
  refine lv_iload_n hx hb dX6_shorten_9 rfl (lv_at hl 1 rfl) ?_
  refine nv_ald (f := w) (k := x) hx hb hX hP 1 rfl (by omega) (by decide) dX6_shorten_10 ?_
  refine lv_aload_n hx hb dX6_shorten_11 rfl (lv_at hl 0 rfl) ?_
  refine va_get (D := G.1) (ci := 5) (v := .ref (wd 1)) (C := RX6) (T := TX6) (N := 2) hx hb hts inA6 hown hX.1 hP 0 rfl rfl 0 (by decide) (hts _ kw_164) (fun _ h9 => h9) rfl dX6_shorten_12 ?_
  refine lv_iload_n hx hb dX6_shorten_15 rfl (lv_at hl 2 rfl) ?_
  refine nv_ald (f := w) (k := y) hx hb hX hP 1 rfl (by omega) (by decide) dX6_shorten_16 ?_
  refine lv_iload_n hx hb dX6_shorten_17 rfl (lv_at hl 3 rfl) ?_
  refine lv_iadd hx hb dX6_shorten_18 (ti (y := (nI ((w y) + z))) (nI_add _ _) ?_)
  refine va_mmin hx hb (hml.trans hl.1.symm) hown (hts _ kw_430) (hts _ kw_378) (hts _ kw_14) (hts _ kw_379) (by decide) (Nat.le_of_ble_eq_true rfl) (Nat.zero_le _) (Nat.zero_le _) dX6_shorten_19 ?_
  refine ti (y := (nI (min (w x) ((w y) + z)))) (qn_min (by have := hw x; omega) (by have := hw y; omega)) ?_
  refine nv_ast (f := w) (k := x) (v := min (w x) ((w y) + z)) hx hb hX hP hD hS 1 rfl (by omega) (by decide) dX6_shorten_22 (fun H locs hP hD hS => ?_)
  have hP : va_P G.1 vwCl (wyw G wd (va_up w x (min (w x) ((w y) + z))) us) H := hP
  have hD : va_D A (wyw G wd (va_up w x (min (w x) ((w y) + z))) us) := hD
  refine lv_aload_n hx hb dX6_shorten_23 rfl (lv_at hl 0 rfl) ?_
  refine va_get (D := G.1) (ci := 5) (v := .ref (wd 1)) (C := RX6) (T := TX6) (N := 2) hx hb hts inA6 hown hX.1 hP 0 rfl rfl 0 (by decide) (hts _ kw_164) (fun _ h9 => h9) rfl dX6_shorten_24 ?_
  refine lv_iload_n hx hb dX6_shorten_27 rfl (lv_at hl 2 rfl) ?_
  refine lv_aload_n hx hb dX6_shorten_28 rfl (lv_at hl 0 rfl) ?_
  refine va_get (D := G.1) (ci := 5) (v := .ref (wd 1)) (C := RX6) (T := TX6) (N := 2) hx hb hts inA6 hown hX.1 hP 0 rfl rfl 0 (by decide) (hts _ kw_164) (fun _ h9 => h9) rfl dX6_shorten_29 ?_
  refine lv_iload_n hx hb dX6_shorten_32 rfl (lv_at hl 2 rfl) ?_
  refine nv_ald (f := va_up w x (min (w x) ((w y) + z))) (k := y) hx hb hX hP 1 rfl (by omega) (by decide) dX6_shorten_33 ?_
  refine lv_aload_n hx hb dX6_shorten_34 rfl (lv_at hl 0 rfl) ?_
  refine va_get (D := G.1) (ci := 5) (v := .ref (wd 1)) (C := RX6) (T := TX6) (N := 2) hx hb hts inA6 hown hX.1 hP 0 rfl rfl 0 (by decide) (hts _ kw_164) (fun _ h9 => h9) rfl dX6_shorten_35 ?_
  refine lv_iload_n hx hb dX6_shorten_38 rfl (lv_at hl 1 rfl) ?_
  refine nv_ald (f := va_up w x (min (w x) ((w y) + z))) (k := x) hx hb hX hP 1 rfl (by omega) (by decide) dX6_shorten_39 ?_
  refine lv_iload_n hx hb dX6_shorten_40 rfl (lv_at hl 3 rfl) ?_
  refine lv_iadd hx hb dX6_shorten_41 (ti (y := (nI (((va_up w x (min (w x) ((w y) + z))) x) + z))) (nI_add _ _) ?_)
  refine va_mmin hx hb (hml.trans hl.1.symm) hown (hts _ kw_430) (hts _ kw_378) (hts _ kw_14) (hts _ kw_379) (by decide) (Nat.le_of_ble_eq_true rfl) (Nat.zero_le _) (Nat.zero_le _) dX6_shorten_42 ?_
  refine ti (y := (nI (min ((va_up w x (min (w x) ((w y) + z))) y) (((va_up w x (min (w x) ((w y) + z))) x) + z)))) (qn_min (by have := hw1 y; omega) (by have := hw1 x; omega)) ?_
  refine nv_ast (f := va_up w x (min (w x) ((w y) + z))) (k := y) (v := min ((va_up w x (min (w x) ((w y) + z))) y) (((va_up w x (min (w x) ((w y) + z))) x) + z)) hx hb hX hP hD hS 1 rfl (by omega) (by decide) dX6_shorten_45 (fun H locs hP hD hS => ?_)
  have hP : va_P G.1 vwCl (wyw G wd (va_up (va_up w x (min (w x) ((w y) + z))) y (min ((va_up w x (min (w x) ((w y) + z))) y) (((va_up w x (min (w x) ((w y) + z))) x) + z))) us) H := hP
  have hD : va_D A (wyw G wd (va_up (va_up w x (min (w x) ((w y) + z))) y (min ((va_up w x (min (w x) ((w y) + z))) y) (((va_up w x (min (w x) ((w y) + z))) x) + z))) us) := hD
  exact re_v hx hb hr hlocks hS () hP hD trivial dX6_shorten_46

theorem hdX6_findBy : hdOK yX6_findBy 3 := by decide +kernel
set_option maxHeartbeats 4000000 in
set_option maxRecDepth 100000 in
theorem mX6_findBy (l : Launch) (G : GG) (wd : Nat → Nat) (w : Nat → Nat) (us : Nat) (ad : Nat → Nat) (a : Nat → Nat) (r : Nat → Nat → Nat) (u9 goals : Nat) (hT : TB a r) (hu : u9 < 4096) (hg : goals < 4096) : Mv l yX6_findBy cX6_findBy 6 none (rmN 2 44) G [.ref (wd 0), .ref (ad 0), .int (nI u9), .int (nI goals)] (wyw G wd w us ++ (tkw G ad a r)) (fun (_ : Unit) => True) (fun (_ : Unit) => wyw G wd (wtN (r 0) (r 1) (r 2) u9 (a 3) (a 0) goals) u9 ++ (tkw G ad a r)) := by
  refine Mv.of (cc := cX6_findBy) (nL := 6) (by decide) (Nat.le_of_ble_eq_true rfl) ?_
  intro p e s m below meth c A ls F hr hlocks hnm hX hA hD hP hS hl
  have F : CallFix p m c cX6_findBy 6 s [.ref (wd 0), .ref (ad 0), .int (nI u9), .int (nI goals)].toArray wA RX6 := F
  obtain ⟨hx, hb, hml, hown, hts⟩ := id F
  have hl : lv_has ls 6 [(0, .ref (wd 0)), (1, .ref (ad 0)), (2, .int (nI u9)), (3, .int (nI goals))] := hl
  obtain ⟨t0, t1, t2, t3, t4, t5, t6, t7, t8, t9, t10, t11, t12⟩ := id hT
  refine lv_aload_n hx hb dX6_findBy_0 rfl (lv_at hl 0 rfl) ?_
  refine lv_iload_n hx hb dX6_findBy_1 rfl (lv_at hl 2 rfl) ?_
  refine va_put (D := G.1) (ci := 5) (v := .int (nI u9)) (ty := .int) (C := RX6) (T := TX6) (N := 2) hx hb hts inA6 tyX6 tyX6_ok nmX6 hown hX.1 hP hD hS 0 rfl rfl 1 (by decide) (hts _ kw_165) (fun _ h9 => h9) rfl (by decide +kernel) rfl rfl (Nat.le_of_ble_eq_true rfl) dX6_findBy_2 (fun H locs hP hD hS => ?_)
  have hP : va_P G.1 vwCl (wyw G wd w u9 ++ (tkw G ad a r)) H := hP
  have hD : va_D A (wyw G wd w u9 ++ (tkw G ad a r)) := hD
  refine lv_aload_n hx hb dX6_findBy_5 rfl (lv_at hl 0 rfl) ?_
  refine va_get (D := G.1) (ci := 5) (v := .ref (wd 1)) (C := RX6) (T := TX6) (N := 2) hx hb hts inA6 hown hX.1 hP 0 rfl rfl 0 (by decide) (hts _ kw_164) (fun _ h9 => h9) rfl dX6_findBy_6 ?_
  refine lv_ldc (v := (nI 1048576)) hx hb hown (hts _ kw_418) dX6_findBy_9 ?_
  refine ca_Sv (rest := []) (wr := tkw G ad a r) F hX (mJ7_fill_53178 l G wd w u9 1048576 ) (cA_S hts kw_421 kw_15 kw_419 kw_420 hdJ7_fill_53178 ⟨Nat.le_of_ble_eq_true rfl, Nat.le_of_ble_eq_true rfl⟩) rfl hl.1 rfl (Nat.le_of_ble_eq_true rfl) dX6_findBy_11 ⟨Nat.le_of_ble_eq_true rfl, Nat.le_of_ble_eq_true rfl⟩ hP hD hS hA (List.Perm.refl _) (fun u11 H locs hp11 hP hD hS => ?_)
  have hP : va_P G.1 vwCl (wyw G wd (fun _ => 1048576) u9 ++ (tkw G ad a r)) H := wp_pm (List.Perm.refl _).symm hP
  have hD : va_D A (wyw G wd (fun _ => 1048576) u9 ++ (tkw G ad a r)) := wd_pm (List.Perm.refl _).symm hD
  refine lv_iconst (v := (nI 0)) hx hb dX6_findBy_14 (by decide) ?_
  refine lv_istore (lv' := [(4, .int (nI 0)), (0, .ref (wd 0)), (1, .ref (ad 0)), (2, .int (nI u9)), (3, .int (nI goals))]) hx hb dX6_findBy_15 hl (by decide) rfl (fun ls hl => ?_)
  have lp17 : ∀ (n17 : Nat) (v : Nat) (y : Nat → Nat), (a 0 - v) < n17 → y = ini goals v → (v ≤ a 0) → ∀ (H : Heap) (locs : List Loc), va_P G.1 vwCl (wyw G wd y u9 ++ (tkw G ad a r)) H → va_D A (wyw G wd y u9 ++ (tkw G ad a r)) → va_S A s.heap H locs → ∀ (ls : Array Slot), lv_has ls 6 [(0, .ref (wd 0)), (1, .ref (ad 0)), (2, .int (nI u9)), (3, .int (nI goals)), (4, .int (nI v))] → WV p l e (rmN 2 44) s m [.ref (wd 0), .ref (ad 0), .int (nI u9), .int (nI goals)] below meth c H locs G A (fun (_ : Unit) => True) (fun (_ : Unit) => wyw G wd (wtN (r 0) (r 1) (r 2) u9 (a 3) (a 0) goals) u9 ++ (tkw G ad a r)) (F0 m 17 ls []) := by
    intro n17
    induction n17 with
    | zero => intro v y h9; exact absurd h9 (Nat.not_lt_zero _)
    | succ n17 ih17 =>
      intro v y hm17 e_y hv H locs hP hD hS ls hl
      subst e_y
      refine lv_iload hx hb dX6_findBy_17 (lv_at hl 4 rfl) ?_
      refine lv_aload_n hx hb dX6_findBy_19 rfl (lv_at hl 1 rfl) ?_
      refine va_get (D := G.1) (ci := 3) (v := .int (nI (a 0))) (C := RX4) (T := TX4) (N := 12) hx hb hts inA4 hown hX.1 hP 2 rfl rfl 0 (by decide) (hts _ kw_64) (fun _ h9 => h9) rfl dX6_findBy_20 ?_
      refine nv_ge (x := v) (y := a 0) (tgt := 49) hx hb dX6_findBy_23 (by decide) (by omega) (by omega) (fun c23 => ?_) (fun c23 => ?_)
      · refine lv_iconst (v := (nI 1)) hx hb dX6_findBy_49 (by decide) ?_
        refine lv_istore (lv' := [(4, .int (nI 1)), (0, .ref (wd 0)), (1, .ref (ad 0)), (2, .int (nI u9)), (3, .int (nI goals))]) hx hb dX6_findBy_50 hl (by decide) rfl (fun ls hl => ?_)
        have lp52 : ∀ (n52 : Nat) (q : Nat) (y : Nat → Nat), (a 0 - q) < n52 → y = rln (r 0) (r 1) (r 2) u9 (a 3) q (ini goals (a 0)) → (q + 1 ≤ a 0) → ∀ (H : Heap) (locs : List Loc), va_P G.1 vwCl (wyw G wd y u9 ++ (tkw G ad a r)) H → va_D A (wyw G wd y u9 ++ (tkw G ad a r)) → va_S A s.heap H locs → ∀ (ls : Array Slot), lv_has ls 6 [(0, .ref (wd 0)), (1, .ref (ad 0)), (2, .int (nI u9)), (3, .int (nI goals)), (4, .int (nI (q + 1)))] → WV p l e (rmN 2 44) s m [.ref (wd 0), .ref (ad 0), .int (nI u9), .int (nI goals)] below meth c H locs G A (fun (_ : Unit) => True) (fun (_ : Unit) => wyw G wd (wtN (r 0) (r 1) (r 2) u9 (a 3) (a 0) goals) u9 ++ (tkw G ad a r)) (F0 m 52 ls []) := by
          intro n52
          induction n52 with
          | zero => intro q y h9; exact absurd h9 (Nat.not_lt_zero _)
          | succ n52 ih52 =>
            intro q y hm52 e_y hq H locs hP hD hS ls hl
            subst e_y
            refine lv_iload hx hb dX6_findBy_52 (lv_at hl 4 rfl) ?_
            refine lv_aload_n hx hb dX6_findBy_54 rfl (lv_at hl 1 rfl) ?_
            refine va_get (D := G.1) (ci := 3) (v := .int (nI (a 0))) (C := RX4) (T := TX4) (N := 12) hx hb hts inA4 hown hX.1 hP 2 rfl rfl 0 (by decide) (hts _ kw_64) (fun _ h9 => h9) rfl dX6_findBy_55 ?_
            refine nv_ge (x := q + 1) (y := a 0) (tgt := 121) hx hb dX6_findBy_58 (by decide) (by omega) (by omega) (fun c58 => ?_) (fun c58 => ?_)
            · have e9 : q = a 0 - 1 := (by omega)
              rw [e9] at hP hD
              exact re_v hx hb hr hlocks hS () hP hD trivial dX6_findBy_121
            · refine lv_iconst (v := (nI 0)) hx hb dX6_findBy_61 (by decide) ?_
              refine lv_istore (lv' := [(5, .int (nI 0)), (0, .ref (wd 0)), (1, .ref (ad 0)), (2, .int (nI u9)), (3, .int (nI goals)), (4, .int (nI (q + 1)))]) hx hb dX6_findBy_62 hl (by decide) rfl (fun ls hl => ?_)
              have lp64 : ∀ (n64 : Nat) (k : Nat) (y : Nat → Nat), (a 3 - k) < n64 → y = rlx (r 0) (r 1) (r 2) u9 k (rln (r 0) (r 1) (r 2) u9 (a 3) q (ini goals (a 0))) → (k ≤ a 3) → ∀ (H : Heap) (locs : List Loc), va_P G.1 vwCl (wyw G wd y u9 ++ (tkw G ad a r)) H → va_D A (wyw G wd y u9 ++ (tkw G ad a r)) → va_S A s.heap H locs → ∀ (ls : Array Slot), lv_has ls 6 [(0, .ref (wd 0)), (1, .ref (ad 0)), (2, .int (nI u9)), (3, .int (nI goals)), (4, .int (nI (q + 1))), (5, .int (nI k))] → WV p l e (rmN 2 44) s m [.ref (wd 0), .ref (ad 0), .int (nI u9), .int (nI goals)] below meth c H locs G A (fun (_ : Unit) => True) (fun (_ : Unit) => wyw G wd (wtN (r 0) (r 1) (r 2) u9 (a 3) (a 0) goals) u9 ++ (tkw G ad a r)) (F0 m 64 ls []) := by
                intro n64
                induction n64 with
                | zero => intro k y h9; exact absurd h9 (Nat.not_lt_zero _)
                | succ n64 ih64 =>
                  intro k y hm64 e_y hk H locs hP hD hS ls hl
                  subst e_y
                  refine lv_iload hx hb dX6_findBy_64 (lv_at hl 5 rfl) ?_
                  refine lv_aload_n hx hb dX6_findBy_66 rfl (lv_at hl 1 rfl) ?_
                  refine va_get (D := G.1) (ci := 3) (v := .int (nI (a 3))) (C := RX4) (T := TX4) (N := 12) hx hb hts inA4 hown hX.1 hP 2 rfl rfl 3 (by decide) (hts _ kw_77) (fun _ h9 => h9) rfl dX6_findBy_67 ?_
                  refine nv_ge (x := k) (y := a 3) (tgt := 115) hx hb dX6_findBy_70 (by decide) (by omega) (by omega) (fun c70 => ?_) (fun c70 => ?_)
                  · refine lv_iinc (v := (nI ((q + 1) + 1))) (lv' := [(4, .int (nI ((q + 1) + 1))), (0, .ref (wd 0)), (1, .ref (ad 0)), (2, .int (nI u9)), (3, .int (nI goals)), (5, .int (nI k))]) hx hb dX6_findBy_115 hl (k := 4) rfl (qn_inc _) (by decide) rfl (fun ls hl => ?_)
                    refine lv_goto (tgt := 52) hx hb dX6_findBy_118 (by decide) ?_
                    exact ih52 (q + 1) (rlx (r 0) (r 1) (r 2) u9 k (rln (r 0) (r 1) (r 2) u9 (a 3) q (ini goals (a 0)))) (by omega) (by have e9 : k = a 3 := (by omega); rw [e9]; rfl) (by omega) _ _ hP hD hS ls (lv_sub hl [1, 2, 3, 4, 0] rfl)
                  · refine lv_aload_n hx hb dX6_findBy_73 rfl (lv_at hl 0 rfl) ?_
                    refine va_get (D := G.1) (ci := 5) (v := .int (nI u9)) (C := RX6) (T := TX6) (N := 2) hx hb hts inA6 hown hX.1 hP 0 rfl rfl 1 (by decide) (hts _ kw_165) (fun _ h9 => h9) rfl dX6_findBy_74 ?_
                    refine lv_iload hx hb dX6_findBy_77 (lv_at hl 5 rfl) ?_
                    refine ca_Ni (rest := []) (wr := wyw G wd (rlx (r 0) (r 1) (r 2) u9 k (rln (r 0) (r 1) (r 2) u9 (a 3) q (ini goals (a 0)))) u9 ++ (tkw G ad a r)) F hX (mX7_has l G u9 k (by omega) (by omega)) ⟨cA_N hts kw_357 kw_1 hX.2.2.2.2.2.2.2.2.2.2.2 hdX7_has ⟨Nat.le_of_ble_eq_true rfl, Nat.le_of_ble_eq_true rfl⟩, hts _ kw_356, trivial⟩ rfl hl.1 rfl (Nat.le_of_ble_eq_true rfl) dX6_findBy_79 ⟨Nat.le_of_ble_eq_true rfl, Nat.le_of_ble_eq_true rfl⟩ hP hD hS hA (List.Perm.refl _) (fun r79 u79 H locs hp79 hP hD hS => ?_)
                    have hP : va_P G.1 vwCl (wyw G wd (rlx (r 0) (r 1) (r 2) u9 k (rln (r 0) (r 1) (r 2) u9 (a 3) q (ini goals (a 0)))) u9 ++ (tkw G ad a r)) H := hP
                    have hD : va_D A (wyw G wd (rlx (r 0) (r 1) (r 2) u9 k (rln (r 0) (r 1) (r 2) u9 (a 3) q (ini goals (a 0)))) u9 ++ (tkw G ad a r)) := hD
                    subst hp79
                    refine bv_eq (b := u9.testBit k) (tgt := 109) hx hb dX6_findBy_82 (by decide) (fun c82 => ?_) (fun c82 => ?_)
                    · refine lv_iinc (v := (nI (k + 1))) (lv' := [(5, .int (nI (k + 1))), (0, .ref (wd 0)), (1, .ref (ad 0)), (2, .int (nI u9)), (3, .int (nI goals)), (4, .int (nI (q + 1)))]) hx hb dX6_findBy_109 hl (k := 5) rfl (qn_inc _) (by decide) rfl (fun ls hl => ?_)
                      refine lv_goto (tgt := 64) hx hb dX6_findBy_112 (by decide) ?_
                      exact ih64 (k + 1) (rlx (r 0) (r 1) (r 2) u9 k (rln (r 0) (r 1) (r 2) u9 (a 3) q (ini goals (a 0)))) (by omega) (by simp [rlx, c82]) (by omega) _ _ hP hD hS ls (lv_sub hl [1, 2, 3, 4, 5, 0] rfl)
                    · refine lv_aload_n hx hb dX6_findBy_85 rfl (lv_at hl 0 rfl) ?_
                      refine lv_aload_n hx hb dX6_findBy_86 rfl (lv_at hl 1 rfl) ?_
                      refine va_get (D := G.1) (ci := 3) (v := .ref (ad 1)) (C := RX4) (T := TX4) (N := 12) hx hb hts inA4 hown hX.1 hP 2 rfl rfl 4 (by decide) (hts _ kw_83) (fun _ h9 => h9) rfl dX6_findBy_87 ?_
                      refine lv_iload hx hb dX6_findBy_90 (lv_at hl 5 rfl) ?_
                      refine nv_ald (f := r 0) (k := k) hx hb hX hP 3 rfl (by omega) (by decide) dX6_findBy_92 ?_
                      refine lv_aload_n hx hb dX6_findBy_93 rfl (lv_at hl 1 rfl) ?_
                      refine va_get (D := G.1) (ci := 3) (v := .ref (ad 2)) (C := RX4) (T := TX4) (N := 12) hx hb hts inA4 hown hX.1 hP 2 rfl rfl 5 (by decide) (hts _ kw_86) (fun _ h9 => h9) rfl dX6_findBy_94 ?_
                      refine lv_iload hx hb dX6_findBy_97 (lv_at hl 5 rfl) ?_
                      refine nv_ald (f := r 1) (k := k) hx hb hX hP 4 rfl (by omega) (by decide) dX6_findBy_99 ?_
                      refine lv_aload_n hx hb dX6_findBy_100 rfl (lv_at hl 1 rfl) ?_
                      refine lv_iload hx hb dX6_findBy_101 (lv_at hl 5 rfl) ?_
                      refine ca_Si (rest := [.int (nI ((r 1) k)), .int (nI ((r 0) k)), .ref (wd 0)]) (wr := wyw G wd (rlx (r 0) (r 1) (r 2) u9 k (rln (r 0) (r 1) (r 2) u9 (a 3) q (ini goals (a 0)))) u9) F hX (mX6_weightOf l G ad a r k (by omega)) (cA_S hts kw_425 kw_6 kw_423 kw_424 hdX6_weightOf ⟨Nat.le_of_ble_eq_true rfl, Nat.le_of_ble_eq_true rfl⟩) rfl hl.1 rfl (Nat.le_of_ble_eq_true rfl) dX6_findBy_103 ⟨Nat.le_of_ble_eq_true rfl, Nat.le_of_ble_eq_true rfl⟩ hP hD hS hA (List.perm_append_comm) (fun r103 u103 H locs hp103 hP hD hS => ?_)
                      have hP : va_P G.1 vwCl (wyw G wd (rlx (r 0) (r 1) (r 2) u9 k (rln (r 0) (r 1) (r 2) u9 (a 3) q (ini goals (a 0)))) u9 ++ (tkw G ad a r)) H := wp_pm (List.perm_append_comm).symm hP
                      have hD : va_D A (wyw G wd (rlx (r 0) (r 1) (r 2) u9 k (rln (r 0) (r 1) (r 2) u9 (a 3) q (ini goals (a 0)))) u9 ++ (tkw G ad a r)) := wd_pm (List.perm_append_comm).symm hD
                      subst hp103
                      refine ca_Vv (ci := 5) (q := (RX6, TX6, 2)) (rest := []) (wr := tkw G ad a r) F hX (mX6_shorten l G wd (rlx (r 0) (r 1) (r 2) u9 k (rln (r 0) (r 1) (r 2) u9 (a 3) q (ini goals (a 0)))) u9 ((r 0) k) ((r 1) k) ((r 2) k * 16 + 1) (rlx_le (rln_le (ini_le goals (a 0)) q) k) (t5 k) (t6 k) (by have := t7 k; omega)) (cA_V hts kw_429 kw_6 kw_426 kw_428 kp_13 hdX6_shorten ⟨Nat.le_of_ble_eq_true rfl, Nat.le_of_ble_eq_true rfl⟩) rfl rfl rfl hl.1 rfl (Nat.le_of_ble_eq_true rfl) dX6_findBy_106 ⟨Nat.le_of_ble_eq_true rfl, Nat.le_of_ble_eq_true rfl⟩ hP hD hS hA (List.Perm.refl _) (fun u106 H locs hp106 hP hD hS => ?_)
                      have hP : va_P G.1 vwCl (wyw G wd (shr (rlx (r 0) (r 1) (r 2) u9 k (rln (r 0) (r 1) (r 2) u9 (a 3) q (ini goals (a 0)))) ((r 0) k) ((r 1) k) ((r 2) k * 16 + 1)) u9 ++ (tkw G ad a r)) H := wp_pm (List.Perm.refl _).symm hP
                      have hD : va_D A (wyw G wd (shr (rlx (r 0) (r 1) (r 2) u9 k (rln (r 0) (r 1) (r 2) u9 (a 3) q (ini goals (a 0)))) ((r 0) k) ((r 1) k) ((r 2) k * 16 + 1)) u9 ++ (tkw G ad a r)) := wd_pm (List.Perm.refl _).symm hD
                      refine lv_iinc (v := (nI (k + 1))) (lv' := [(5, .int (nI (k + 1))), (0, .ref (wd 0)), (1, .ref (ad 0)), (2, .int (nI u9)), (3, .int (nI goals)), (4, .int (nI (q + 1)))]) hx hb dX6_findBy_109 hl (k := 5) rfl (qn_inc _) (by decide) rfl (fun ls hl => ?_)
                      refine lv_goto (tgt := 64) hx hb dX6_findBy_112 (by decide) ?_
                      exact ih64 (k + 1) (shr (rlx (r 0) (r 1) (r 2) u9 k (rln (r 0) (r 1) (r 2) u9 (a 3) q (ini goals (a 0)))) ((r 0) k) ((r 1) k) ((r 2) k * 16 + 1)) (by omega) (by simp [rlx, c82]) (by omega) _ _ hP hD hS ls (lv_sub hl [1, 2, 3, 4, 5, 0] rfl)
              exact lp64 _ 0 (rln (r 0) (r 1) (r 2) u9 (a 3) q (ini goals (a 0))) (Nat.lt_succ_self _) rfl (Nat.zero_le _) _ _ hP hD hS ls (lv_sub hl [1, 2, 3, 4, 5, 0] rfl)
        exact lp52 _ 0 (ini goals v) (Nat.lt_succ_self _) (by have e9 : v = a 0 := (by omega); rw [e9]; rfl) (by omega) _ _ hP hD hS ls (lv_sub hl [1, 2, 3, 4, 0] rfl)
      · refine lv_iload_n hx hb dX6_findBy_26 rfl (lv_at hl 3 rfl) ?_
        refine lv_iload hx hb dX6_findBy_27 (lv_at hl 4 rfl) ?_
        refine ca_Ni (rest := []) (wr := wyw G wd (ini goals v) u9 ++ (tkw G ad a r)) F hX (mX7_has l G goals v (by omega) (by omega)) ⟨cA_N hts kw_357 kw_1 hX.2.2.2.2.2.2.2.2.2.2.2 hdX7_has ⟨Nat.le_of_ble_eq_true rfl, Nat.le_of_ble_eq_true rfl⟩, hts _ kw_356, trivial⟩ rfl hl.1 rfl (Nat.le_of_ble_eq_true rfl) dX6_findBy_29 ⟨Nat.le_of_ble_eq_true rfl, Nat.le_of_ble_eq_true rfl⟩ hP hD hS hA (List.Perm.refl _) (fun r29 u29 H locs hp29 hP hD hS => ?_)
        have hP : va_P G.1 vwCl (wyw G wd (ini goals v) u9 ++ (tkw G ad a r)) H := hP
        have hD : va_D A (wyw G wd (ini goals v) u9 ++ (tkw G ad a r)) := hD
        subst hp29
        refine bv_eq (b := goals.testBit v) (tgt := 43) hx hb dX6_findBy_32 (by decide) (fun c32 => ?_) (fun c32 => ?_)
        · refine lv_iinc (v := (nI (v + 1))) (lv' := [(4, .int (nI (v + 1))), (0, .ref (wd 0)), (1, .ref (ad 0)), (2, .int (nI u9)), (3, .int (nI goals))]) hx hb dX6_findBy_43 hl (k := 4) rfl (qn_inc _) (by decide) rfl (fun ls hl => ?_)
          refine lv_goto (tgt := 17) hx hb dX6_findBy_46 (by decide) ?_
          exact ih17 (v + 1) (ini goals v) (by omega) (by simp [ini, c32]) (by omega) _ _ hP hD hS ls (lv_sub hl [1, 2, 3, 4, 0] rfl)
        · refine lv_aload_n hx hb dX6_findBy_35 rfl (lv_at hl 0 rfl) ?_
          refine va_get (D := G.1) (ci := 5) (v := .ref (wd 1)) (C := RX6) (T := TX6) (N := 2) hx hb hts inA6 hown hX.1 hP 0 rfl rfl 0 (by decide) (hts _ kw_164) (fun _ h9 => h9) rfl dX6_findBy_36 ?_
          refine lv_iload hx hb dX6_findBy_39 (lv_at hl 4 rfl) ?_
          refine lv_iconst (v := (nI 0)) hx hb dX6_findBy_41 (by decide) ?_
          refine nv_ast (f := (ini goals v)) (k := v) (v := 0) hx hb hX hP hD hS 1 rfl (by omega) (by decide) dX6_findBy_42 (fun H locs hP hD hS => ?_)
          have hP : va_P G.1 vwCl (wyw G wd (va_up (ini goals v) v 0) u9 ++ (tkw G ad a r)) H := hP
          have hD : va_D A (wyw G wd (va_up (ini goals v) v 0) u9 ++ (tkw G ad a r)) := hD
          refine lv_iinc (v := (nI (v + 1))) (lv' := [(4, .int (nI (v + 1))), (0, .ref (wd 0)), (1, .ref (ad 0)), (2, .int (nI u9)), (3, .int (nI goals))]) hx hb dX6_findBy_43 hl (k := 4) rfl (qn_inc _) (by decide) rfl (fun ls hl => ?_)
          refine lv_goto (tgt := 17) hx hb dX6_findBy_46 (by decide) ?_
          exact ih17 (v + 1) (va_up (ini goals v) v 0) (by omega) (by simp [ini, c32]) (by omega) _ _ hP hD hS ls (lv_sub hl [1, 2, 3, 4, 0] rfl)
  exact lp17 _ 0 (fun _ => 1048576) (Nat.lt_succ_self _) rfl (Nat.zero_le _) _ _ hP hD hS ls (lv_sub hl [1, 2, 3, 4, 0] rfl)

theorem up_lt {a : Nat → Nat} {r : Nat → Nat → Nat} (h : TB a r) : nd (2 ^ a 3 - 1) (a 9) < 4096 := by
  obtain ⟨t0, t1, t2, t3, t4, -⟩ := h
  have h1 := nd_le (2 ^ a 3 - 1) (a 9)
  have h2 := pw12 t4
  have h3 := Nat.one_le_two_pow (n := a 3)
  omega

theorem hdX6_find : hdOK yX6_find 2 := by decide +kernel
set_option maxHeartbeats 4000000 in
set_option maxRecDepth 100000 in
theorem mX6_find (l : Launch) (G : GG) (wd : Nat → Nat) (w : Nat → Nat) (us : Nat) (ad : Nat → Nat) (a : Nat → Nat) (r : Nat → Nat → Nat) (set : Nat) (hT : TB a r) (hs : set < 4096) : Mv l yX6_find cX6_find 3 none (rmN 3 69) G [.ref (wd 0), .ref (ad 0), .int (nI set)] (wyw G wd w us ++ (tkw G ad a r)) (fun (_ : Unit) => True) (fun (_ : Unit) => wyw G wd (wtN (r 0) (r 1) (r 2) (nd (2 ^ (a 3) - 1) (a 9)) (a 3) (a 0) (nof (r 0) (r 1) (a 1) set (a 3))) (nd (2 ^ (a 3) - 1) (a 9)) ++ (tkw G ad a r)) := by
  refine Mv.of (cc := cX6_find) (nL := 3) (by decide) (Nat.le_of_ble_eq_true rfl) ?_
  intro p e s m below meth c A ls F hr hlocks hnm hX hA hD hP hS hl
  have F : CallFix p m c cX6_find 3 s [.ref (wd 0), .ref (ad 0), .int (nI set)].toArray wA RX6 := F
  obtain ⟨hx, hb, hml, hown, hts⟩ := id F
  have hl : lv_has ls 3 [(0, .ref (wd 0)), (1, .ref (ad 0)), (2, .int (nI set))] := hl
  obtain ⟨t0, t1, t2, t3, t4, t5, t6, t7, t8, t9, t10, t11, t12⟩ := id hT
  refine lv_aload_n hx hb dX6_find_0 rfl (lv_at hl 0 rfl) ?_
  refine lv_aload_n hx hb dX6_find_1 rfl (lv_at hl 1 rfl) ?_
  refine lv_aload_n hx hb dX6_find_2 rfl (lv_at hl 1 rfl) ?_
  refine ca_Vi (ci := 3) (q := (RX4, TX4, 12)) (rest := [.ref (ad 0), .ref (wd 0)]) (wr := wyw G wd w us) F hX (mX4_upLinks l G ad a r  hT) (cA_V hts kw_409 kw_3 kw_406 kw_407 kw_408 hdX4_upLinks ⟨Nat.le_of_ble_eq_true rfl, Nat.le_of_ble_eq_true rfl⟩) rfl rfl rfl hl.1 rfl (Nat.le_of_ble_eq_true rfl) dX6_find_3 ⟨Nat.le_of_ble_eq_true rfl, Nat.le_of_ble_eq_true rfl⟩ hP hD hS hA (List.perm_append_comm) (fun r3 u3 H locs hp3 hP hD hS => ?_)
  have hP : va_P G.1 vwCl (wyw G wd w us ++ (tkw G ad a r)) H := wp_pm (List.perm_append_comm).symm hP
  have hD : va_D A (wyw G wd w us ++ (tkw G ad a r)) := wd_pm (List.perm_append_comm).symm hD
  subst hp3
  refine lv_aload_n hx hb dX6_find_6 rfl (lv_at hl 1 rfl) ?_
  refine lv_iload_n hx hb dX6_find_7 rfl (lv_at hl 2 rfl) ?_
  refine ca_Vi (ci := 3) (q := (RX4, TX4, 12)) (rest := [.int (nI (nd (2 ^ (a 3) - 1) (a 9))), .ref (ad 0), .ref (wd 0)]) (wr := wyw G wd w us) F hX (mX4_nodesOf l G ad a r set hT (by omega)) (cA_V hts kw_413 kw_3 kw_410 kw_411 kw_412 hdX4_nodesOf ⟨Nat.le_of_ble_eq_true rfl, Nat.le_of_ble_eq_true rfl⟩) rfl rfl rfl hl.1 rfl (Nat.le_of_ble_eq_true rfl) dX6_find_8 ⟨Nat.le_of_ble_eq_true rfl, Nat.le_of_ble_eq_true rfl⟩ hP hD hS hA (List.perm_append_comm) (fun r8 u8 H locs hp8 hP hD hS => ?_)
  have hP : va_P G.1 vwCl (wyw G wd w us ++ (tkw G ad a r)) H := wp_pm (List.perm_append_comm).symm hP
  have hD : va_D A (wyw G wd w us ++ (tkw G ad a r)) := wd_pm (List.perm_append_comm).symm hD
  subst hp8
  refine ca_Vv (ci := 5) (q := (RX6, TX6, 2)) (rest := []) (wr := ([] : va_W)) F hX (mX6_findBy l G wd w us ad a r (nd (2 ^ (a 3) - 1) (a 9)) (nof (r 0) (r 1) (a 1) set (a 3)) hT (up_lt hT) (by have := nof_lt t5 t6 (src := a 1) (by omega) set (a 3); omega)) (cA_V hts kw_417 kw_6 kw_414 kw_415 kw_416 hdX6_findBy ⟨Nat.le_of_ble_eq_true rfl, Nat.le_of_ble_eq_true rfl⟩) rfl rfl rfl hl.1 rfl (Nat.le_of_ble_eq_true rfl) dX6_find_11 ⟨Nat.le_of_ble_eq_true rfl, Nat.le_of_ble_eq_true rfl⟩ hP hD hS hA (pm_nil _) (fun u11 H locs hp11 hP hD hS => ?_)
  have hP : va_P G.1 vwCl (wyw G wd (wtN (r 0) (r 1) (r 2) (nd (2 ^ (a 3) - 1) (a 9)) (a 3) (a 0) (nof (r 0) (r 1) (a 1) set (a 3))) (nd (2 ^ (a 3) - 1) (a 9)) ++ (tkw G ad a r)) H := wp_pm (pm_nil _).symm hP
  have hD : va_D A (wyw G wd (wtN (r 0) (r 1) (r 2) (nd (2 ^ (a 3) - 1) (a 9)) (a 3) (a 0) (nof (r 0) (r 1) (a 1) set (a 3))) (nd (2 ^ (a 3) - 1) (a 9)) ++ (tkw G ad a r)) := wd_pm (pm_nil _).symm hD
  exact re_v hx hb hr hlocks hS () hP hD trivial dX6_find_14

theorem hdX6_reach : hdOK yX6_reach 1 := by decide +kernel
set_option maxHeartbeats 4000000 in
set_option maxRecDepth 100000 in
theorem mX6_reach (l : Launch) (G : GG) (wd : Nat → Nat) (w : Nat → Nat) (us : Nat) (v : Nat) (hw : ∀ j, w j ≤ 1048576) (hv : v < 7) : Mi l yX6_reach cX6_reach 2 (some .boolean) (rmN 0 0) G [.ref (wd 0), .int (nI v)] (wyw G wd w us) (fun (r9 : Int32) (_ : Unit) => r9 = (bI (decide (w v < 1048576)))) (fun (_ : Unit) => wyw G wd w us) := by
  refine Mi.of (cc := cX6_reach) (nL := 2) (by decide) (Nat.le_of_ble_eq_true rfl) ?_
  intro p e s m below meth c A ls F hr hlocks hnm hX hA hD hP hS hl
  have F : CallFix p m c cX6_reach 2 s [.ref (wd 0), .int (nI v)].toArray wA RX6 := F
  obtain ⟨hx, hb, hml, hown, hts⟩ := id F
  have hl : lv_has ls 2 [(0, .ref (wd 0)), (1, .int (nI v))] := hl
  refine lv_aload_n hx hb dX6_reach_0 rfl (lv_at hl 0 rfl) ?_
  refine va_get (D := G.1) (ci := 5) (v := .ref (wd 1)) (C := RX6) (T := TX6) (N := 2) hx hb hts inA6 hown hX.1 hP 0 rfl rfl 0 (by decide) (hts _ kw_164) (fun _ h9 => h9) rfl dX6_reach_1 ?_
  refine lv_iload_n hx hb dX6_reach_4 rfl (lv_at hl 1 rfl) ?_
  refine nv_ald (f := w) (k := v) hx hb hX hP 1 rfl (by omega) (by decide) dX6_reach_5 ?_
  refine lv_ldc (v := (nI 1048576)) hx hb hown (hts _ kw_418) dX6_reach_6 ?_
  refine nv_ge (x := w v) (y := 1048576) (tgt := 15) hx hb dX6_reach_8 (by decide) (by have := hw v; omega) (by decide) (fun c8 => ?_) (fun c8 => ?_)
  · refine lv_iconst (v := (nI 0)) hx hb dX6_reach_15 (by decide) ?_
    exact re_z (v := (nI 0)) hx hb hr hlocks hS () hP hD (by first | (rw [decide_eq_true c8]; rfl) | (rw [decide_eq_false (by omega)]; rfl)) (by decide) dX6_reach_16
  · refine lv_iconst (v := (nI 1)) hx hb dX6_reach_11 (by decide) ?_
    refine lv_goto (tgt := 16) hx hb dX6_reach_12 (by decide) ?_
    exact re_z (v := (nI 1)) hx hb hr hlocks hS () hP hD (by first | (rw [decide_eq_true c8]; rfl) | (rw [decide_eq_false (by omega)]; rfl)) (by decide) dX6_reach_16

theorem hdX6_costFrom : hdOK yX6_costFrom 1 := by decide +kernel
set_option maxHeartbeats 4000000 in
set_option maxRecDepth 100000 in
theorem mX6_costFrom (l : Launch) (G : GG) (wd : Nat → Nat) (w : Nat → Nat) (us : Nat) (v : Nat) (hw : ∀ j, w j ≤ 1048576) (hv : v < 7) : Mi l yX6_costFrom cX6_costFrom 2 (some .int) (rmN 1 21) G [.ref (wd 0), .int (nI v)] (wyw G wd w us) (fun (r9 : Int32) (_ : Unit) => r9 = (oN (cfr w v))) (fun (_ : Unit) => wyw G wd w us) := by
  refine Mi.of (cc := cX6_costFrom) (nL := 2) (by decide) (Nat.le_of_ble_eq_true rfl) ?_
  intro p e s m below meth c A ls F hr hlocks hnm hX hA hD hP hS hl
  have F : CallFix p m c cX6_costFrom 2 s [.ref (wd 0), .int (nI v)].toArray wA RX6 := F
  obtain ⟨hx, hb, hml, hown, hts⟩ := id F
  have hl : lv_has ls 2 [(0, .ref (wd 0)), (1, .int (nI v))] := hl
  refine lv_aload_n hx hb dX6_costFrom_0 rfl (lv_at hl 0 rfl) ?_
  refine lv_iload_n hx hb dX6_costFrom_1 rfl (lv_at hl 1 rfl) ?_
  refine ca_Vi (ci := 5) (q := (RX6, TX6, 2)) (rest := []) (wr := ([] : va_W)) F hX (mX6_reach l G wd w us v hw (by omega)) (cA_V hts kw_434 kw_6 kw_483 kw_432 kw_433 hdX6_reach ⟨Nat.le_of_ble_eq_true rfl, Nat.le_of_ble_eq_true rfl⟩) rfl rfl rfl hl.1 rfl (Nat.le_of_ble_eq_true rfl) dX6_costFrom_2 ⟨Nat.le_of_ble_eq_true rfl, Nat.le_of_ble_eq_true rfl⟩ hP hD hS hA (pm_nil _) (fun r2 u2 H locs hp2 hP hD hS => ?_)
  have hP : va_P G.1 vwCl (wyw G wd w us) H := wp_pm (pm_nil _).symm hP
  have hD : va_D A (wyw G wd w us) := wd_pm (pm_nil _).symm hD
  subst hp2
  refine bv_eq (b := decide (w v < 1048576)) (tgt := 20) hx hb dX6_costFrom_5 (by decide) (fun c5 => ?_) (fun c5 => ?_)
  · refine lv_bipush (v := (-9)) hx hb dX6_costFrom_20 (by decide) ?_
    exact re_i (v := (-9)) hx hb hr hlocks hS () hP hD (by first | (rw [cfr, if_pos (of_decide_eq_true c5)]; rfl) | (rw [cfr, if_neg (of_decide_eq_false c5)]; rfl)) dX6_costFrom_22
  · refine lv_aload_n hx hb dX6_costFrom_8 rfl (lv_at hl 0 rfl) ?_
    refine va_get (D := G.1) (ci := 5) (v := .ref (wd 1)) (C := RX6) (T := TX6) (N := 2) hx hb hts inA6 hown hX.1 hP 0 rfl rfl 0 (by decide) (hts _ kw_164) (fun _ h9 => h9) rfl dX6_costFrom_9 ?_
    refine lv_iload_n hx hb dX6_costFrom_12 rfl (lv_at hl 1 rfl) ?_
    refine nv_ald (f := w) (k := v) hx hb hX hP 1 rfl (by omega) (by decide) dX6_costFrom_13 ?_
    refine lv_bipush (v := (nI 16)) hx hb dX6_costFrom_14 (by decide) ?_
    refine lv_idiv hx hb dX6_costFrom_16 (by decide) (ti (y := (nI ((w v) / 16))) (pk_div (by have := hw v; omega) (by decide) (by decide)) ?_)
    refine lv_goto (tgt := 22) hx hb dX6_costFrom_17 (by decide) ?_
    exact re_i (v := (nI ((w v) / 16))) hx hb hr hlocks hS () hP hD (by first | (rw [cfr, if_pos (of_decide_eq_true c5)]; rfl) | (rw [cfr, if_neg (of_decide_eq_false c5)]; rfl)) dX6_costFrom_22

theorem hdX6_stepsFrom : hdOK yX6_stepsFrom 1 := by decide +kernel
set_option maxHeartbeats 4000000 in
set_option maxRecDepth 100000 in
theorem mX6_stepsFrom (l : Launch) (G : GG) (wd : Nat → Nat) (w : Nat → Nat) (us : Nat) (v : Nat) (hw : ∀ j, w j ≤ 1048576) (hv : v < 7) : Mi l yX6_stepsFrom cX6_stepsFrom 2 (some .int) (rmN 1 21) G [.ref (wd 0), .int (nI v)] (wyw G wd w us) (fun (r9 : Int32) (_ : Unit) => r9 = (oN (sfr w v))) (fun (_ : Unit) => wyw G wd w us) := by
  refine Mi.of (cc := cX6_stepsFrom) (nL := 2) (by decide) (Nat.le_of_ble_eq_true rfl) ?_
  intro p e s m below meth c A ls F hr hlocks hnm hX hA hD hP hS hl
  have F : CallFix p m c cX6_stepsFrom 2 s [.ref (wd 0), .int (nI v)].toArray wA RX6 := F
  obtain ⟨hx, hb, hml, hown, hts⟩ := id F
  have hl : lv_has ls 2 [(0, .ref (wd 0)), (1, .int (nI v))] := hl
  refine lv_aload_n hx hb dX6_stepsFrom_0 rfl (lv_at hl 0 rfl) ?_
  refine lv_iload_n hx hb dX6_stepsFrom_1 rfl (lv_at hl 1 rfl) ?_
  refine ca_Vi (ci := 5) (q := (RX6, TX6, 2)) (rest := []) (wr := ([] : va_W)) F hX (mX6_reach l G wd w us v hw (by omega)) (cA_V hts kw_434 kw_6 kw_483 kw_432 kw_433 hdX6_reach ⟨Nat.le_of_ble_eq_true rfl, Nat.le_of_ble_eq_true rfl⟩) rfl rfl rfl hl.1 rfl (Nat.le_of_ble_eq_true rfl) dX6_stepsFrom_2 ⟨Nat.le_of_ble_eq_true rfl, Nat.le_of_ble_eq_true rfl⟩ hP hD hS hA (pm_nil _) (fun r2 u2 H locs hp2 hP hD hS => ?_)
  have hP : va_P G.1 vwCl (wyw G wd w us) H := wp_pm (pm_nil _).symm hP
  have hD : va_D A (wyw G wd w us) := wd_pm (pm_nil _).symm hD
  subst hp2
  refine bv_eq (b := decide (w v < 1048576)) (tgt := 20) hx hb dX6_stepsFrom_5 (by decide) (fun c5 => ?_) (fun c5 => ?_)
  · refine lv_bipush (v := (-9)) hx hb dX6_stepsFrom_20 (by decide) ?_
    exact re_i (v := (-9)) hx hb hr hlocks hS () hP hD (by first | (rw [sfr, if_pos (of_decide_eq_true c5)]; rfl) | (rw [sfr, if_neg (of_decide_eq_false c5)]; rfl)) dX6_stepsFrom_22
  · refine lv_aload_n hx hb dX6_stepsFrom_8 rfl (lv_at hl 0 rfl) ?_
    refine va_get (D := G.1) (ci := 5) (v := .ref (wd 1)) (C := RX6) (T := TX6) (N := 2) hx hb hts inA6 hown hX.1 hP 0 rfl rfl 0 (by decide) (hts _ kw_164) (fun _ h9 => h9) rfl dX6_stepsFrom_9 ?_
    refine lv_iload_n hx hb dX6_stepsFrom_12 rfl (lv_at hl 1 rfl) ?_
    refine nv_ald (f := w) (k := v) hx hb hX hP 1 rfl (by omega) (by decide) dX6_stepsFrom_13 ?_
    refine lv_bipush (v := (nI 16)) hx hb dX6_stepsFrom_14 (by decide) ?_
    refine lv_irem hx hb dX6_stepsFrom_16 (by decide) (ti (y := (nI ((w v) % 16))) (pk_rem (by have := hw v; omega) (by decide) (by decide)) ?_)
    refine lv_goto (tgt := 22) hx hb dX6_stepsFrom_17 (by decide) ?_
    exact re_i (v := (nI ((w v) % 16))) hx hb hr hlocks hS () hP hD (by first | (rw [sfr, if_pos (of_decide_eq_true c5)]; rfl) | (rw [sfr, if_neg (of_decide_eq_false c5)]; rfl)) dX6_stepsFrom_22

theorem hdX6_firstStep : hdOK yX6_firstStep 2 := by decide +kernel
set_option maxHeartbeats 4000000 in
set_option maxRecDepth 100000 in
theorem mX6_firstStep (l : Launch) (G : GG) (wd : Nat → Nat) (w : Nat → Nat) (us : Nat) (ad : Nat → Nat) (a : Nat → Nat) (r : Nat → Nat → Nat) (v : Nat) (hw : ∀ j, w j ≤ 1048576) (hu : us < 4096) (hT : TB a r) (hv : v < 7) : Mi l yX6_firstStep cX6_firstStep 7 (some .int) (rmN 1 22) G [.ref (wd 0), .ref (ad 0), .int (nI v)] (wyw G wd w us ++ (tkw G ad a r)) (fun (r9 : Int32) (_ : Unit) => r9 = (oN (fsO (r 0) (r 1) (r 2) w us (a 3) v))) (fun (_ : Unit) => wyw G wd w us ++ (tkw G ad a r)) := by
  refine Mi.of (cc := cX6_firstStep) (nL := 7) (by decide) (Nat.le_of_ble_eq_true rfl) ?_
  intro p e s m below meth c A ls F hr hlocks hnm hX hA hD hP hS hl
  have F : CallFix p m c cX6_firstStep 7 s [.ref (wd 0), .ref (ad 0), .int (nI v)].toArray wA RX6 := F
  obtain ⟨hx, hb, hml, hown, hts⟩ := id F
  have hl : lv_has ls 7 [(0, .ref (wd 0)), (1, .ref (ad 0)), (2, .int (nI v))] := hl
  obtain ⟨t0, t1, t2, t3, t4, t5, t6, t7, t8, t9, t10, t11, t12⟩ := id hT
  refine lv_bipush (v := (-9)) hx hb dX6_firstStep_0 (by decide) ?_
  refine lv_istore_n (lv' := [(3, .int (-9)), (0, .ref (wd 0)), (1, .ref (ad 0)), (2, .int (nI v))]) hx hb dX6_firstStep_2 rfl hl (by decide) rfl (fun ls hl => ?_)
  refine lv_bipush (v := (nI 7)) hx hb dX6_firstStep_3 (by decide) ?_
  refine lv_istore (lv' := [(4, .int (nI 7)), (3, .int (-9)), (0, .ref (wd 0)), (1, .ref (ad 0)), (2, .int (nI v))]) hx hb dX6_firstStep_5 hl (by decide) rfl (fun ls hl => ?_)
  refine lv_iconst (v := (nI 0)) hx hb dX6_firstStep_7 (by decide) ?_
  refine lv_istore (lv' := [(5, .int (nI 0)), (4, .int (nI 7)), (3, .int (-9)), (0, .ref (wd 0)), (1, .ref (ad 0)), (2, .int (nI v))]) hx hb dX6_firstStep_8 hl (by decide) rfl (fun ls hl => ?_)
  have lp10 : ∀ (n10 : Nat) (k : Nat) (b : Int32) (lo : Nat), (a 3 - k) < n10 → b = oN (fsS (r 0) (r 1) (r 2) w us v k).1 → lo = (fsS (r 0) (r 1) (r 2) w us v k).2 → (k ≤ a 3) → ∀ (H : Heap) (locs : List Loc), va_P G.1 vwCl (wyw G wd w us ++ (tkw G ad a r)) H → va_D A (wyw G wd w us ++ (tkw G ad a r)) → va_S A s.heap H locs → ∀ (ls : Array Slot), lv_has ls 7 [(0, .ref (wd 0)), (1, .ref (ad 0)), (2, .int (nI v)), (3, .int b), (4, .int (nI lo)), (5, .int (nI k))] → WI p l e (rmN 1 22) s m [.ref (wd 0), .ref (ad 0), .int (nI v)] below meth c H locs G A (fun (r9 : Int32) (_ : Unit) => r9 = (oN (fsO (r 0) (r 1) (r 2) w us (a 3) v))) (fun (_ : Unit) => wyw G wd w us ++ (tkw G ad a r)) (F0 m 10 ls []) := by
    intro n10
    induction n10 with
    | zero => intro k b lo h9; exact absurd h9 (Nat.not_lt_zero _)
    | succ n10 ih10 =>
      intro k b lo hm10 e_b e_lo hk H locs hP hD hS ls hl
      subst e_b
      subst e_lo
      refine lv_iload hx hb dX6_firstStep_10 (lv_at hl 5 rfl) ?_
      refine lv_aload_n hx hb dX6_firstStep_12 rfl (lv_at hl 1 rfl) ?_
      refine va_get (D := G.1) (ci := 3) (v := .int (nI (a 3))) (C := RX4) (T := TX4) (N := 12) hx hb hts inA4 hown hX.1 hP 2 rfl rfl 3 (by decide) (hts _ kw_77) (fun _ h9 => h9) rfl dX6_firstStep_13 ?_
      refine nv_ge (x := k) (y := a 3) (tgt := 96) hx hb dX6_firstStep_16 (by decide) (by omega) (by omega) (fun c16 => ?_) (fun c16 => ?_)
      · refine lv_iload_n hx hb dX6_firstStep_96 rfl (lv_at hl 3 rfl) ?_
        exact re_i (v := (oN (fsS (r 0) (r 1) (r 2) w us v k).1)) hx hb hr hlocks hS () hP hD (by have e9 : k = a 3 := (by omega); rw [e9]; rfl) dX6_firstStep_97
      · refine lv_aload_n hx hb dX6_firstStep_19 rfl (lv_at hl 0 rfl) ?_
        refine va_get (D := G.1) (ci := 5) (v := .int (nI us)) (C := RX6) (T := TX6) (N := 2) hx hb hts inA6 hown hX.1 hP 0 rfl rfl 1 (by decide) (hts _ kw_165) (fun _ h9 => h9) rfl dX6_firstStep_20 ?_
        refine lv_iload hx hb dX6_firstStep_23 (lv_at hl 5 rfl) ?_
        refine ca_Ni (rest := []) (wr := wyw G wd w us ++ (tkw G ad a r)) F hX (mX7_has l G us k (by omega) (by omega)) ⟨cA_N hts kw_357 kw_1 hX.2.2.2.2.2.2.2.2.2.2.2 hdX7_has ⟨Nat.le_of_ble_eq_true rfl, Nat.le_of_ble_eq_true rfl⟩, hts _ kw_356, trivial⟩ rfl hl.1 rfl (Nat.le_of_ble_eq_true rfl) dX6_firstStep_25 ⟨Nat.le_of_ble_eq_true rfl, Nat.le_of_ble_eq_true rfl⟩ hP hD hS hA (List.Perm.refl _) (fun r25 u25 H locs hp25 hP hD hS => ?_)
        have hP : va_P G.1 vwCl (wyw G wd w us ++ (tkw G ad a r)) H := hP
        have hD : va_D A (wyw G wd w us ++ (tkw G ad a r)) := hD
        subst hp25
        refine bv_eq (b := us.testBit k) (tgt := 90) hx hb dX6_firstStep_28 (by decide) (fun c28 => ?_) (fun c28 => ?_)
        · refine lv_iinc (v := (nI (k + 1))) (lv' := [(5, .int (nI (k + 1))), (0, .ref (wd 0)), (1, .ref (ad 0)), (2, .int (nI v)), (3, .int (oN (fsS (r 0) (r 1) (r 2) w us v k).1)), (4, .int (nI ((fsS (r 0) (r 1) (r 2) w us v k).2)))]) hx hb dX6_firstStep_90 hl (k := 5) rfl (qn_inc _) (by decide) rfl (fun ls hl => ?_)
          refine lv_goto (tgt := 10) hx hb dX6_firstStep_93 (by decide) ?_
          exact ih10 (k + 1) (oN (fsS (r 0) (r 1) (r 2) w us v k).1) ((fsS (r 0) (r 1) (r 2) w us v k).2) (by omega) (by first | (rw [fsS, if_pos ⟨c28, c41, c57, c80⟩] <;> rfl) | (rw [fsS, if_neg (fun h => c80 h.2.2.2)] <;> rfl) | (rw [fsS, if_neg (fun h => absurd h.2.2.1 (by omega))] <;> rfl) | (rw [fsS, if_neg (fun h => by rw [c41] at h; exact absurd h.2.1 (by decide))] <;> rfl) | (rw [fsS, if_neg (fun h => by rw [c28] at h; exact absurd h.1 (by decide))] <;> rfl)) (by first | (rw [fsS, if_pos ⟨c28, c41, c57, c80⟩] <;> rfl) | (rw [fsS, if_neg (fun h => c80 h.2.2.2)] <;> rfl) | (rw [fsS, if_neg (fun h => absurd h.2.2.1 (by omega))] <;> rfl) | (rw [fsS, if_neg (fun h => by rw [c41] at h; exact absurd h.2.1 (by decide))] <;> rfl) | (rw [fsS, if_neg (fun h => by rw [c28] at h; exact absurd h.1 (by decide))] <;> rfl)) (by omega) _ _ hP hD hS ls (lv_sub hl [1, 2, 3, 4, 5, 0] rfl)
        · refine lv_aload_n hx hb dX6_firstStep_31 rfl (lv_at hl 1 rfl) ?_
          refine lv_iload hx hb dX6_firstStep_32 (lv_at hl 5 rfl) ?_
          refine ca_Vi (ci := 3) (q := (RX4, TX4, 12)) (rest := []) (wr := wyw G wd w us) F hX (mX4_ends l G ad a r k hT (by omega)) (cA_V hts kw_354 kw_3 kw_448 kw_352 kw_353 hdX4_ends ⟨Nat.le_of_ble_eq_true rfl, Nat.le_of_ble_eq_true rfl⟩) rfl rfl rfl hl.1 rfl (Nat.le_of_ble_eq_true rfl) dX6_firstStep_34 ⟨Nat.le_of_ble_eq_true rfl, Nat.le_of_ble_eq_true rfl⟩ hP hD hS hA (List.perm_append_comm) (fun r34 u34 H locs hp34 hP hD hS => ?_)
          have hP : va_P G.1 vwCl (wyw G wd w us ++ (tkw G ad a r)) H := wp_pm (List.perm_append_comm).symm hP
          have hD : va_D A (wyw G wd w us ++ (tkw G ad a r)) := wd_pm (List.perm_append_comm).symm hD
          subst hp34
          refine lv_iload_n hx hb dX6_firstStep_37 rfl (lv_at hl 2 rfl) ?_
          refine ca_Ni (rest := []) (wr := wyw G wd w us ++ (tkw G ad a r)) F hX (mX7_has l G (edg (r 0) (r 1) k) v (by have := edg_lt t5 t6 k; omega) (by omega)) ⟨cA_N hts kw_357 kw_1 hX.2.2.2.2.2.2.2.2.2.2.2 hdX7_has ⟨Nat.le_of_ble_eq_true rfl, Nat.le_of_ble_eq_true rfl⟩, hts _ kw_356, trivial⟩ rfl hl.1 rfl (Nat.le_of_ble_eq_true rfl) dX6_firstStep_38 ⟨Nat.le_of_ble_eq_true rfl, Nat.le_of_ble_eq_true rfl⟩ hP hD hS hA (List.Perm.refl _) (fun r38 u38 H locs hp38 hP hD hS => ?_)
          have hP : va_P G.1 vwCl (wyw G wd w us ++ (tkw G ad a r)) H := hP
          have hD : va_D A (wyw G wd w us ++ (tkw G ad a r)) := hD
          subst hp38
          refine bv_eq (b := (edg (r 0) (r 1) k).testBit v) (tgt := 90) hx hb dX6_firstStep_41 (by decide) (fun c41 => ?_) (fun c41 => ?_)
          · refine lv_iinc (v := (nI (k + 1))) (lv' := [(5, .int (nI (k + 1))), (0, .ref (wd 0)), (1, .ref (ad 0)), (2, .int (nI v)), (3, .int (oN (fsS (r 0) (r 1) (r 2) w us v k).1)), (4, .int (nI ((fsS (r 0) (r 1) (r 2) w us v k).2)))]) hx hb dX6_firstStep_90 hl (k := 5) rfl (qn_inc _) (by decide) rfl (fun ls hl => ?_)
            refine lv_goto (tgt := 10) hx hb dX6_firstStep_93 (by decide) ?_
            exact ih10 (k + 1) (oN (fsS (r 0) (r 1) (r 2) w us v k).1) ((fsS (r 0) (r 1) (r 2) w us v k).2) (by omega) (by first | (rw [fsS, if_pos ⟨c28, c41, c57, c80⟩] <;> rfl) | (rw [fsS, if_neg (fun h => c80 h.2.2.2)] <;> rfl) | (rw [fsS, if_neg (fun h => absurd h.2.2.1 (by omega))] <;> rfl) | (rw [fsS, if_neg (fun h => by rw [c41] at h; exact absurd h.2.1 (by decide))] <;> rfl) | (rw [fsS, if_neg (fun h => by rw [c28] at h; exact absurd h.1 (by decide))] <;> rfl)) (by first | (rw [fsS, if_pos ⟨c28, c41, c57, c80⟩] <;> rfl) | (rw [fsS, if_neg (fun h => c80 h.2.2.2)] <;> rfl) | (rw [fsS, if_neg (fun h => absurd h.2.2.1 (by omega))] <;> rfl) | (rw [fsS, if_neg (fun h => by rw [c41] at h; exact absurd h.2.1 (by decide))] <;> rfl) | (rw [fsS, if_neg (fun h => by rw [c28] at h; exact absurd h.1 (by decide))] <;> rfl)) (by omega) _ _ hP hD hS ls (lv_sub hl [1, 2, 3, 4, 5, 0] rfl)
          · refine lv_aload_n hx hb dX6_firstStep_44 rfl (lv_at hl 1 rfl) ?_
            refine lv_iload hx hb dX6_firstStep_45 (lv_at hl 5 rfl) ?_
            refine lv_iload_n hx hb dX6_firstStep_47 rfl (lv_at hl 2 rfl) ?_
            refine ca_Si (rest := []) (wr := wyw G wd w us) F hX (mX6_nextNode l G ad a r k v hT (by omega) (by omega)) (cA_S hts kw_451 kw_6 kw_449 kw_450 hdX6_nextNode ⟨Nat.le_of_ble_eq_true rfl, Nat.le_of_ble_eq_true rfl⟩) rfl hl.1 rfl (Nat.le_of_ble_eq_true rfl) dX6_firstStep_48 ⟨Nat.le_of_ble_eq_true rfl, Nat.le_of_ble_eq_true rfl⟩ hP hD hS hA (List.perm_append_comm) (fun r48 u48 H locs hp48 hP hD hS => ?_)
            have hP : va_P G.1 vwCl (wyw G wd w us ++ (tkw G ad a r)) H := wp_pm (List.perm_append_comm).symm hP
            have hD : va_D A (wyw G wd w us ++ (tkw G ad a r)) := wd_pm (List.perm_append_comm).symm hD
            subst hp48
            refine lv_istore (lv' := [(6, .int (nI (nxt (r 0) (r 1) k v))), (0, .ref (wd 0)), (1, .ref (ad 0)), (2, .int (nI v)), (3, .int (oN (fsS (r 0) (r 1) (r 2) w us v k).1)), (4, .int (nI ((fsS (r 0) (r 1) (r 2) w us v k).2))), (5, .int (nI k))]) hx hb dX6_firstStep_51 hl (by decide) rfl (fun ls hl => ?_)
            refine lv_iload hx hb dX6_firstStep_53 (lv_at hl 0 rfl) ?_
            refine lv_iload hx hb dX6_firstStep_55 (lv_at hl 5 rfl) ?_
            refine nv_ge (x := nxt (r 0) (r 1) k v) (y := ((fsS (r 0) (r 1) (r 2) w us v k).2)) (tgt := 90) hx hb dX6_firstStep_57 (by decide) (by have := nxt_lt t5 t6 k v; omega) (by have := fsS_le (r 0) (r 1) (r 2) w us v k; omega) (fun c57 => ?_) (fun c57 => ?_)
            · refine lv_iinc (v := (nI (k + 1))) (lv' := [(5, .int (nI (k + 1))), (6, .int (nI (nxt (r 0) (r 1) k v))), (0, .ref (wd 0)), (1, .ref (ad 0)), (2, .int (nI v)), (3, .int (oN (fsS (r 0) (r 1) (r 2) w us v k).1)), (4, .int (nI ((fsS (r 0) (r 1) (r 2) w us v k).2)))]) hx hb dX6_firstStep_90 hl (k := 6) rfl (qn_inc _) (by decide) rfl (fun ls hl => ?_)
              refine lv_goto (tgt := 10) hx hb dX6_firstStep_93 (by decide) ?_
              exact ih10 (k + 1) (oN (fsS (r 0) (r 1) (r 2) w us v k).1) ((fsS (r 0) (r 1) (r 2) w us v k).2) (by omega) (by first | (rw [fsS, if_pos ⟨c28, c41, c57, c80⟩] <;> rfl) | (rw [fsS, if_neg (fun h => c80 h.2.2.2)] <;> rfl) | (rw [fsS, if_neg (fun h => absurd h.2.2.1 (by omega))] <;> rfl) | (rw [fsS, if_neg (fun h => by rw [c41] at h; exact absurd h.2.1 (by decide))] <;> rfl) | (rw [fsS, if_neg (fun h => by rw [c28] at h; exact absurd h.1 (by decide))] <;> rfl)) (by first | (rw [fsS, if_pos ⟨c28, c41, c57, c80⟩] <;> rfl) | (rw [fsS, if_neg (fun h => c80 h.2.2.2)] <;> rfl) | (rw [fsS, if_neg (fun h => absurd h.2.2.1 (by omega))] <;> rfl) | (rw [fsS, if_neg (fun h => by rw [c41] at h; exact absurd h.2.1 (by decide))] <;> rfl) | (rw [fsS, if_neg (fun h => by rw [c28] at h; exact absurd h.1 (by decide))] <;> rfl)) (by omega) _ _ hP hD hS ls (lv_sub hl [2, 3, 4, 5, 6, 0] rfl)
            · refine lv_aload_n hx hb dX6_firstStep_60 rfl (lv_at hl 1 rfl) ?_
              refine va_get (D := G.1) (ci := 5) (v := .ref (wd 1)) (C := RX6) (T := TX6) (N := 2) hx hb hts inA6 hown hX.1 hP 0 rfl rfl 0 (by decide) (hts _ kw_164) (fun _ h9 => h9) rfl dX6_firstStep_61 ?_
              refine lv_iload hx hb dX6_firstStep_64 (lv_at hl 0 rfl) ?_
              refine nv_ald (f := w) (k := nxt (r 0) (r 1) k v) hx hb hX hP 1 rfl (nxt_lt t5 t6 k v) (by decide) dX6_firstStep_66 ?_
              refine lv_aload_n hx hb dX6_firstStep_67 rfl (lv_at hl 2 rfl) ?_
              refine lv_iload hx hb dX6_firstStep_68 (lv_at hl 6 rfl) ?_
              refine ca_Si (rest := [.int (nI (w (nxt (r 0) (r 1) k v)))]) (wr := wyw G wd w us) F hX (mX6_weightOf l G ad a r k (by omega)) (cA_S hts kw_425 kw_6 kw_423 kw_424 hdX6_weightOf ⟨Nat.le_of_ble_eq_true rfl, Nat.le_of_ble_eq_true rfl⟩) rfl hl.1 rfl (Nat.le_of_ble_eq_true rfl) dX6_firstStep_70 ⟨Nat.le_of_ble_eq_true rfl, Nat.le_of_ble_eq_true rfl⟩ hP hD hS hA (List.perm_append_comm) (fun r70 u70 H locs hp70 hP hD hS => ?_)
              have hP : va_P G.1 vwCl (wyw G wd w us ++ (tkw G ad a r)) H := wp_pm (List.perm_append_comm).symm hP
              have hD : va_D A (wyw G wd w us ++ (tkw G ad a r)) := wd_pm (List.perm_append_comm).symm hD
              subst hp70
              refine lv_iadd hx hb dX6_firstStep_73 (ti (y := (nI ((w (nxt (r 0) (r 1) k v)) + ((r 2) k * 16 + 1)))) (nI_add _ _) ?_)
              refine lv_aload_n hx hb dX6_firstStep_74 rfl (lv_at hl 1 rfl) ?_
              refine va_get (D := G.1) (ci := 5) (v := .ref (wd 1)) (C := RX6) (T := TX6) (N := 2) hx hb hts inA6 hown hX.1 hP 0 rfl rfl 0 (by decide) (hts _ kw_164) (fun _ h9 => h9) rfl dX6_firstStep_75 ?_
              refine lv_iload_n hx hb dX6_firstStep_78 rfl (lv_at hl 3 rfl) ?_
              refine nv_ald (f := w) (k := v) hx hb hX hP 1 rfl (by omega) (by decide) dX6_firstStep_79 ?_
              refine nv_ne (x := (w (nxt (r 0) (r 1) k v)) + ((r 2) k * 16 + 1)) (y := w v) (tgt := 90) hx hb dX6_firstStep_80 (by decide) (by have h1 := hw (nxt (r 0) (r 1) k v); have h2 := t7 k; omega) (by have := hw v; omega) (fun c80 => ?_) (fun c80 => ?_)
              · refine lv_iinc (v := (nI (k + 1))) (lv' := [(5, .int (nI (k + 1))), (6, .int (nI (nxt (r 0) (r 1) k v))), (0, .ref (wd 0)), (1, .ref (ad 0)), (2, .int (nI v)), (3, .int (oN (fsS (r 0) (r 1) (r 2) w us v k).1)), (4, .int (nI ((fsS (r 0) (r 1) (r 2) w us v k).2)))]) hx hb dX6_firstStep_90 hl (k := 6) rfl (qn_inc _) (by decide) rfl (fun ls hl => ?_)
                refine lv_goto (tgt := 10) hx hb dX6_firstStep_93 (by decide) ?_
                exact ih10 (k + 1) (oN (fsS (r 0) (r 1) (r 2) w us v k).1) ((fsS (r 0) (r 1) (r 2) w us v k).2) (by omega) (by first | (rw [fsS, if_pos ⟨c28, c41, c57, c80⟩] <;> rfl) | (rw [fsS, if_neg (fun h => c80 h.2.2.2)] <;> rfl) | (rw [fsS, if_neg (fun h => absurd h.2.2.1 (by omega))] <;> rfl) | (rw [fsS, if_neg (fun h => by rw [c41] at h; exact absurd h.2.1 (by decide))] <;> rfl) | (rw [fsS, if_neg (fun h => by rw [c28] at h; exact absurd h.1 (by decide))] <;> rfl)) (by first | (rw [fsS, if_pos ⟨c28, c41, c57, c80⟩] <;> rfl) | (rw [fsS, if_neg (fun h => c80 h.2.2.2)] <;> rfl) | (rw [fsS, if_neg (fun h => absurd h.2.2.1 (by omega))] <;> rfl) | (rw [fsS, if_neg (fun h => by rw [c41] at h; exact absurd h.2.1 (by decide))] <;> rfl) | (rw [fsS, if_neg (fun h => by rw [c28] at h; exact absurd h.1 (by decide))] <;> rfl)) (by omega) _ _ hP hD hS ls (lv_sub hl [2, 3, 4, 5, 6, 0] rfl)
              · refine lv_iload hx hb dX6_firstStep_83 (lv_at hl 6 rfl) ?_
                refine lv_istore_n (lv' := [(3, .int (nI k)), (6, .int (nI (nxt (r 0) (r 1) k v))), (0, .ref (wd 0)), (1, .ref (ad 0)), (2, .int (nI v)), (4, .int (nI ((fsS (r 0) (r 1) (r 2) w us v k).2))), (5, .int (nI k))]) hx hb dX6_firstStep_85 rfl hl (by decide) rfl (fun ls hl => ?_)
                refine lv_iload hx hb dX6_firstStep_86 (lv_at hl 1 rfl) ?_
                refine lv_istore (lv' := [(4, .int (nI (nxt (r 0) (r 1) k v))), (3, .int (nI k)), (6, .int (nI (nxt (r 0) (r 1) k v))), (0, .ref (wd 0)), (1, .ref (ad 0)), (2, .int (nI v)), (5, .int (nI k))]) hx hb dX6_firstStep_88 hl (by decide) rfl (fun ls hl => ?_)
                refine lv_iinc (v := (nI (k + 1))) (lv' := [(5, .int (nI (k + 1))), (4, .int (nI (nxt (r 0) (r 1) k v))), (3, .int (nI k)), (6, .int (nI (nxt (r 0) (r 1) k v))), (0, .ref (wd 0)), (1, .ref (ad 0)), (2, .int (nI v))]) hx hb dX6_firstStep_90 hl (k := 6) rfl (qn_inc _) (by decide) rfl (fun ls hl => ?_)
                refine lv_goto (tgt := 10) hx hb dX6_firstStep_93 (by decide) ?_
                exact ih10 (k + 1) (nI k) (nxt (r 0) (r 1) k v) (by omega) (by first | (rw [fsS, if_pos ⟨c28, c41, c57, c80⟩] <;> rfl) | (rw [fsS, if_neg (fun h => c80 h.2.2.2)] <;> rfl) | (rw [fsS, if_neg (fun h => absurd h.2.2.1 (by omega))] <;> rfl) | (rw [fsS, if_neg (fun h => by rw [c41] at h; exact absurd h.2.1 (by decide))] <;> rfl) | (rw [fsS, if_neg (fun h => by rw [c28] at h; exact absurd h.1 (by decide))] <;> rfl)) (by first | (rw [fsS, if_pos ⟨c28, c41, c57, c80⟩] <;> rfl) | (rw [fsS, if_neg (fun h => c80 h.2.2.2)] <;> rfl) | (rw [fsS, if_neg (fun h => absurd h.2.2.1 (by omega))] <;> rfl) | (rw [fsS, if_neg (fun h => by rw [c41] at h; exact absurd h.2.1 (by decide))] <;> rfl) | (rw [fsS, if_neg (fun h => by rw [c28] at h; exact absurd h.1 (by decide))] <;> rfl)) (by omega) _ _ hP hD hS ls (lv_sub hl [4, 5, 6, 2, 1, 0] rfl)
  exact lp10 _ 0 (-9) 7 (Nat.lt_succ_self _) rfl rfl (Nat.zero_le _) _ _ hP hD hS ls (lv_sub hl [3, 4, 5, 2, 1, 0] rfl)

theorem hdX6_linksFrom : hdOK yX6_linksFrom 2 := by decide +kernel
set_option maxHeartbeats 4000000 in
set_option maxRecDepth 100000 in
theorem mX6_linksFrom (l : Launch) (G : GG) (wd : Nat → Nat) (w : Nat → Nat) (us : Nat) (ad : Nat → Nat) (a : Nat → Nat) (r : Nat → Nat → Nat) (v : Nat) (hw : ∀ j, w j ≤ 1048576) (hu : us < 4096) (hT : TB a r) (hv : v < 7) : Mi l yX6_linksFrom cX6_linksFrom 7 (some .int) (rmN 2 48) G [.ref (wd 0), .ref (ad 0), .int (nI v)] (wyw G wd w us ++ (tkw G ad a r)) (fun (r9 : Int32) (_ : Unit) => r9 = (nI (lfr (r 0) (r 1) (r 2) w us (a 3) 7 v 0))) (fun (_ : Unit) => wyw G wd w us ++ (tkw G ad a r)) := by
  refine Mi.of (cc := cX6_linksFrom) (nL := 7) (by decide) (Nat.le_of_ble_eq_true rfl) ?_
  intro p e s m below meth c A ls F hr hlocks hnm hX hA hD hP hS hl
  have F : CallFix p m c cX6_linksFrom 7 s [.ref (wd 0), .ref (ad 0), .int (nI v)].toArray wA RX6 := F
  obtain ⟨hx, hb, hml, hown, hts⟩ := id F
  have hl : lv_has ls 7 [(0, .ref (wd 0)), (1, .ref (ad 0)), (2, .int (nI v))] := hl
  obtain ⟨t0, t1, t2, t3, t4, t5, t6, t7, t8, t9, t10, t11, t12⟩ := id hT
  refine lv_iconst (v := (nI 0)) hx hb dX6_linksFrom_0 (by decide) ?_
  refine lv_istore_n (lv' := [(3, .int (nI 0)), (0, .ref (wd 0)), (1, .ref (ad 0)), (2, .int (nI v))]) hx hb dX6_linksFrom_1 rfl hl (by decide) rfl (fun ls hl => ?_)
  refine lv_iload_n hx hb dX6_linksFrom_2 rfl (lv_at hl 3 rfl) ?_
  refine lv_istore (lv' := [(4, .int (nI v)), (3, .int (nI 0)), (0, .ref (wd 0)), (1, .ref (ad 0)), (2, .int (nI v))]) hx hb dX6_linksFrom_3 hl (by decide) rfl (fun ls hl => ?_)
  refine lv_iconst (v := (nI 0)) hx hb dX6_linksFrom_5 (by decide) ?_
  refine lv_istore (lv' := [(5, .int (nI 0)), (4, .int (nI v)), (3, .int (nI 0)), (0, .ref (wd 0)), (1, .ref (ad 0)), (2, .int (nI v))]) hx hb dX6_linksFrom_6 hl (by decide) rfl (fun ls hl => ?_)
  have lp8 : ∀ (n8 : Nat) (i : Nat) (x : Nat) (set : Nat), (7 - i) < n8 → (i ≤ 7) → (x < 7) → (lfr (r 0) (r 1) (r 2) w us (a 3) (7 - i) x set = lfr (r 0) (r 1) (r 2) w us (a 3) 7 v 0) → ∀ (H : Heap) (locs : List Loc), va_P G.1 vwCl (wyw G wd w us ++ (tkw G ad a r)) H → va_D A (wyw G wd w us ++ (tkw G ad a r)) → va_S A s.heap H locs → ∀ (ls : Array Slot), lv_has ls 7 [(0, .ref (wd 0)), (1, .ref (ad 0)), (2, .int (nI v)), (3, .int (nI set)), (4, .int (nI x)), (5, .int (nI i))] → WI p l e (rmN 2 48) s m [.ref (wd 0), .ref (ad 0), .int (nI v)] below meth c H locs G A (fun (r9 : Int32) (_ : Unit) => r9 = (nI (lfr (r 0) (r 1) (r 2) w us (a 3) 7 v 0))) (fun (_ : Unit) => wyw G wd w us ++ (tkw G ad a r)) (F0 m 8 ls []) := by
    intro n8
    induction n8 with
    | zero => intro i x set h9; exact absurd h9 (Nat.not_lt_zero _)
    | succ n8 ih8 =>
      intro i x set hm8  hi hx7 hres H locs hP hD hS ls hl
      refine lv_iload hx hb dX6_linksFrom_8 (lv_at hl 5 rfl) ?_
      refine lv_bipush (v := (nI 7)) hx hb dX6_linksFrom_10 (by decide) ?_
      refine nv_ge (x := i) (y := 7) (tgt := 55) hx hb dX6_linksFrom_12 (by decide) (by omega) (by decide) (fun c12 => ?_) (fun c12 => ?_)
      · refine lv_iload_n hx hb dX6_linksFrom_55 rfl (lv_at hl 3 rfl) ?_
        exact re_i (v := (nI set)) hx hb hr hlocks hS () hP hD (by first | (have e9 : 7 - i = 0 := (by omega); rw [e9] at hres; rw [← hres]; rfl) | (have e9 : 7 - i = (6 - i) + 1 := (by omega); rw [e9, lfr, hj] at hres; rw [← hres])) dX6_linksFrom_56
      · refine lv_aload_n hx hb dX6_linksFrom_15 rfl (lv_at hl 0 rfl) ?_
        refine lv_aload_n hx hb dX6_linksFrom_16 rfl (lv_at hl 1 rfl) ?_
        refine lv_iload hx hb dX6_linksFrom_17 (lv_at hl 4 rfl) ?_
        refine ca_Vi (ci := 5) (q := (RX6, TX6, 2)) (rest := []) (wr := ([] : va_W)) F hX (mX6_firstStep l G wd w us ad a r x hw hu hT (by omega)) (cA_V hts kw_447 kw_6 kw_444 kw_446 kp_14 hdX6_firstStep ⟨Nat.le_of_ble_eq_true rfl, Nat.le_of_ble_eq_true rfl⟩) rfl rfl rfl hl.1 rfl (Nat.le_of_ble_eq_true rfl) dX6_linksFrom_19 ⟨Nat.le_of_ble_eq_true rfl, Nat.le_of_ble_eq_true rfl⟩ hP hD hS hA (pm_nil _) (fun r19 u19 H locs hp19 hP hD hS => ?_)
        have hP : va_P G.1 vwCl (wyw G wd w us ++ (tkw G ad a r)) H := wp_pm (pm_nil _).symm hP
        have hD : va_D A (wyw G wd w us ++ (tkw G ad a r)) := wd_pm (pm_nil _).symm hD
        subst hp19
        rcases hj : fsO (r 0) (r 1) (r 2) w us (a 3) x with _ | j
        · refine ti (y := -9) rfl ?_
          refine lv_istore (lv' := [(6, .int (-9)), (0, .ref (wd 0)), (1, .ref (ad 0)), (2, .int (nI v)), (3, .int (nI set)), (4, .int (nI x)), (5, .int (nI i))]) hx hb dX6_linksFrom_22 hl (by decide) rfl (fun ls hl => ?_)
          refine lv_iload hx hb dX6_linksFrom_24 (lv_at hl 0 rfl) ?_
          refine lv_if_ge (x := (-9)) (tgt := 32) hx hb dX6_linksFrom_26 (by decide) (fun c26 => ?_) (fun c26 => ?_)
          · exact absurd c26 (by decide)
          · refine lv_goto (tgt := 55) hx hb dX6_linksFrom_29 (by decide) ?_
            refine lv_iload_n hx hb dX6_linksFrom_55 rfl (lv_at hl 4 rfl) ?_
            exact re_i (v := (nI set)) hx hb hr hlocks hS () hP hD (by first | (have e9 : 7 - i = 0 := (by omega); rw [e9] at hres; rw [← hres]; rfl) | (have e9 : 7 - i = (6 - i) + 1 := (by omega); rw [e9, lfr, hj] at hres; rw [← hres])) dX6_linksFrom_56
        · refine ti (y := nI j) rfl ?_
          have hlj : j < 12 := by have := fsO_lt hj; omega
          refine lv_istore (lv' := [(6, .int (nI j)), (0, .ref (wd 0)), (1, .ref (ad 0)), (2, .int (nI v)), (3, .int (nI set)), (4, .int (nI x)), (5, .int (nI i))]) hx hb dX6_linksFrom_22 hl (by decide) rfl (fun ls hl => ?_)
          refine lv_iload hx hb dX6_linksFrom_24 (lv_at hl 0 rfl) ?_
          refine nv_zge (x := j) (tgt := 32) hx hb dX6_linksFrom_26 (by decide) (by omega) ?_
          refine lv_iload_n hx hb dX6_linksFrom_32 rfl (lv_at hl 4 rfl) ?_
          refine lv_iconst (v := (nI 1)) hx hb dX6_linksFrom_33 (by decide) ?_
          refine lv_iload hx hb dX6_linksFrom_34 (lv_at hl 0 rfl) ?_
          refine lv_ishl hx hb dX6_linksFrom_36 (ti (y := (nI (2 ^ j))) (qn_sh1 (by omega)) ?_)
          refine lv_ior hx hb dX6_linksFrom_37 (ti (y := (nI (set ||| (2 ^ j)))) (qn_or _ _) ?_)
          refine lv_istore_n (lv' := [(3, .int (nI (set ||| (2 ^ j)))), (6, .int (nI j)), (0, .ref (wd 0)), (1, .ref (ad 0)), (2, .int (nI v)), (4, .int (nI x)), (5, .int (nI i))]) hx hb dX6_linksFrom_38 rfl hl (by decide) rfl (fun ls hl => ?_)
          refine lv_aload_n hx hb dX6_linksFrom_39 rfl (lv_at hl 3 rfl) ?_
          refine lv_iload hx hb dX6_linksFrom_40 (lv_at hl 1 rfl) ?_
          refine lv_iload hx hb dX6_linksFrom_42 (lv_at hl 5 rfl) ?_
          refine ca_Si (rest := []) (wr := wyw G wd w us) F hX (mX6_nextNode l G ad a r j x hT (by omega) (by omega)) (cA_S hts kw_451 kw_6 kw_449 kw_450 hdX6_nextNode ⟨Nat.le_of_ble_eq_true rfl, Nat.le_of_ble_eq_true rfl⟩) rfl hl.1 rfl (Nat.le_of_ble_eq_true rfl) dX6_linksFrom_44 ⟨Nat.le_of_ble_eq_true rfl, Nat.le_of_ble_eq_true rfl⟩ hP hD hS hA (List.perm_append_comm) (fun r44 u44 H locs hp44 hP hD hS => ?_)
          have hP : va_P G.1 vwCl (wyw G wd w us ++ (tkw G ad a r)) H := wp_pm (List.perm_append_comm).symm hP
          have hD : va_D A (wyw G wd w us ++ (tkw G ad a r)) := wd_pm (List.perm_append_comm).symm hD
          subst hp44
          refine lv_istore (lv' := [(4, .int (nI (nxt (r 0) (r 1) j x))), (3, .int (nI (set ||| (2 ^ j)))), (6, .int (nI j)), (0, .ref (wd 0)), (1, .ref (ad 0)), (2, .int (nI v)), (5, .int (nI i))]) hx hb dX6_linksFrom_47 hl (by decide) rfl (fun ls hl => ?_)
          refine lv_iinc (v := (nI (i + 1))) (lv' := [(5, .int (nI (i + 1))), (4, .int (nI (nxt (r 0) (r 1) j x))), (3, .int (nI (set ||| (2 ^ j)))), (6, .int (nI j)), (0, .ref (wd 0)), (1, .ref (ad 0)), (2, .int (nI v))]) hx hb dX6_linksFrom_49 hl (k := 6) rfl (qn_inc _) (by decide) rfl (fun ls hl => ?_)
          refine lv_goto (tgt := 8) hx hb dX6_linksFrom_52 (by decide) ?_
          exact ih8 (i + 1) (nxt (r 0) (r 1) j x) (set ||| (2 ^ j)) (by omega) (by omega) (nxt_lt t5 t6 j x) (by have e9 : 7 - i = (7 - (i + 1)) + 1 := (by omega); rw [e9, lfr, hj] at hres; exact hres) _ _ hP hD hS ls (lv_sub hl [4, 5, 6, 2, 1, 0] rfl)
  exact lp8 _ 0 v 0 (Nat.lt_succ_self _) (Nat.zero_le _) hv rfl _ _ hP hD hS ls (lv_sub hl [3, 4, 5, 2, 1, 0] rfl)

theorem hdX6_stepAt : hdOK yX6_stepAt 3 := by decide +kernel
set_option maxHeartbeats 4000000 in
set_option maxRecDepth 100000 in
theorem mX6_stepAt (l : Launch) (G : GG) (wd : Nat → Nat) (w : Nat → Nat) (us : Nat) (ad : Nat → Nat) (a : Nat → Nat) (r : Nat → Nat → Nat) (v i : Nat) (hw : ∀ j, w j ≤ 1048576) (hu : us < 4096) (hT : TB a r) (hv : v < 7) (hi : i < 2 ^ 31) : Mi l yX6_stepAt cX6_stepAt 7 (some .int) (rmN 2 48) G [.ref (wd 0), .ref (ad 0), .int (nI v), .int (nI i)] (wyw G wd w us ++ (tkw G ad a r)) (fun (r9 : Int32) (_ : Unit) => r9 = (oN (if i < 7 then saN (r 0) (r 1) (r 2) w us (a 3) i v (fsO (r 0) (r 1) (r 2) w us (a 3) v) else none))) (fun (_ : Unit) => wyw G wd w us ++ (tkw G ad a r)) := by
  refine Mi.of (cc := cX6_stepAt) (nL := 7) (by decide) (Nat.le_of_ble_eq_true rfl) ?_
  intro p e s m below meth c A ls F hr hlocks hnm hX hA hD hP hS hl
  have F : CallFix p m c cX6_stepAt 7 s [.ref (wd 0), .ref (ad 0), .int (nI v), .int (nI i)].toArray wA RX6 := F
  obtain ⟨hx, hb, hml, hown, hts⟩ := id F
  have hl : lv_has ls 7 [(0, .ref (wd 0)), (1, .ref (ad 0)), (2, .int (nI v)), (3, .int (nI i))] := hl
  obtain ⟨t0, t1, t2, t3, t4, t5, t6, t7, t8, t9, t10, t11, t12⟩ := id hT
  refine lv_iload_n hx hb dX6_stepAt_0 rfl (lv_at hl 3 rfl) ?_
  refine lv_bipush (v := (nI 7)) hx hb dX6_stepAt_1 (by decide) ?_
  refine nv_lt (x := i) (y := 7) (tgt := 9) hx hb dX6_stepAt_3 (by decide) (by omega) (by decide) (fun c3 => ?_) (fun c3 => ?_)
  · refine lv_iload_n hx hb dX6_stepAt_9 rfl (lv_at hl 2 rfl) ?_
    refine lv_istore (lv' := [(4, .int (nI v)), (0, .ref (wd 0)), (1, .ref (ad 0)), (2, .int (nI v)), (3, .int (nI i))]) hx hb dX6_stepAt_10 hl (by decide) rfl (fun ls hl => ?_)
    refine lv_aload_n hx hb dX6_stepAt_12 rfl (lv_at hl 1 rfl) ?_
    refine lv_aload_n hx hb dX6_stepAt_13 rfl (lv_at hl 2 rfl) ?_
    refine lv_iload hx hb dX6_stepAt_14 (lv_at hl 0 rfl) ?_
    refine ca_Vi (ci := 5) (q := (RX6, TX6, 2)) (rest := []) (wr := ([] : va_W)) F hX (mX6_firstStep l G wd w us ad a r v hw hu hT (by omega)) (cA_V hts kw_447 kw_6 kw_444 kw_446 kp_14 hdX6_firstStep ⟨Nat.le_of_ble_eq_true rfl, Nat.le_of_ble_eq_true rfl⟩) rfl rfl rfl hl.1 rfl (Nat.le_of_ble_eq_true rfl) dX6_stepAt_16 ⟨Nat.le_of_ble_eq_true rfl, Nat.le_of_ble_eq_true rfl⟩ hP hD hS hA (pm_nil _) (fun r16 u16 H locs hp16 hP hD hS => ?_)
    have hP : va_P G.1 vwCl (wyw G wd w us ++ (tkw G ad a r)) H := wp_pm (pm_nil _).symm hP
    have hD : va_D A (wyw G wd w us ++ (tkw G ad a r)) := wd_pm (pm_nil _).symm hD
    subst hp16
    refine lv_istore (lv' := [(5, .int (oN (fsO (r 0) (r 1) (r 2) w us (a 3) v))), (4, .int (nI v)), (0, .ref (wd 0)), (1, .ref (ad 0)), (2, .int (nI v)), (3, .int (nI i))]) hx hb dX6_stepAt_19 hl (by decide) rfl (fun ls hl => ?_)
    refine lv_iconst (v := (nI 0)) hx hb dX6_stepAt_21 (by decide) ?_
    refine lv_istore (lv' := [(6, .int (nI 0)), (5, .int (oN (fsO (r 0) (r 1) (r 2) w us (a 3) v))), (4, .int (nI v)), (0, .ref (wd 0)), (1, .ref (ad 0)), (2, .int (nI v)), (3, .int (nI i))]) hx hb dX6_stepAt_22 hl (by decide) rfl (fun ls hl => ?_)
    have lp24 : ∀ (n24 : Nat) (q : Nat) (x : Nat) (o : Option Nat), (i - q) < n24 → (q ≤ i) → (x < 7) → (∀ k, o = some k → k < 12) → (saN (r 0) (r 1) (r 2) w us (a 3) (i - q) x o = saN (r 0) (r 1) (r 2) w us (a 3) i v (fsO (r 0) (r 1) (r 2) w us (a 3) v)) → ∀ (H : Heap) (locs : List Loc), va_P G.1 vwCl (wyw G wd w us ++ (tkw G ad a r)) H → va_D A (wyw G wd w us ++ (tkw G ad a r)) → va_S A s.heap H locs → ∀ (ls : Array Slot), lv_has ls 7 [(0, .ref (wd 0)), (1, .ref (ad 0)), (2, .int (nI v)), (3, .int (nI i)), (4, .int (nI x)), (5, .int (oN o)), (6, .int (nI q))] → WI p l e (rmN 2 48) s m [.ref (wd 0), .ref (ad 0), .int (nI v), .int (nI i)] below meth c H locs G A (fun (r9 : Int32) (_ : Unit) => r9 = (oN (if i < 7 then saN (r 0) (r 1) (r 2) w us (a 3) i v (fsO (r 0) (r 1) (r 2) w us (a 3) v) else none))) (fun (_ : Unit) => wyw G wd w us ++ (tkw G ad a r)) (F0 m 24 ls []) := by
      intro n24
      induction n24 with
      | zero => intro q x o h9; exact absurd h9 (Nat.not_lt_zero _)
      | succ n24 ih24 =>
        intro q x o hm24  hq hx7 ho hres H locs hP hD hS ls hl
        refine lv_iload hx hb dX6_stepAt_24 (lv_at hl 6 rfl) ?_
        refine lv_iload_n hx hb dX6_stepAt_26 rfl (lv_at hl 3 rfl) ?_
        refine nv_ge (x := q) (y := i) (tgt := 60) hx hb dX6_stepAt_27 (by decide) (by omega) (by omega) (fun c27 => ?_) (fun c27 => ?_)
        · refine lv_iload hx hb dX6_stepAt_60 (lv_at hl 5 rfl) ?_
          exact re_i (v := (oN o)) hx hb hr hlocks hS () hP hD (by first | (have e9 : i - q = 0 := (by omega); rw [e9] at hres; rw [if_pos (by omega), ← hres]; rfl) | (have e9 : i - q = (i - q - 1) + 1 := (by omega); rw [e9, saN] at hres; rw [if_pos (by omega), ← hres]; rfl)) dX6_stepAt_62
        · rcases o with _ | j
          · have hl : lv_has ls 7 [(0, .ref (wd 0)), (1, .ref (ad 0)), (2, .int (nI v)), (3, .int (nI i)), (4, .int (nI x)), (5, .int (-9)), (6, .int (nI q))] := hl
            refine lv_iload hx hb dX6_stepAt_30 (lv_at hl 5 rfl) ?_
            refine lv_if_lt (x := (-9)) (tgt := 60) hx hb dX6_stepAt_32 (by decide) (fun c32 => ?_) (fun c32 => ?_)
            · refine lv_iload hx hb dX6_stepAt_60 (lv_at hl 5 rfl) ?_
              exact re_i (v := (-9)) hx hb hr hlocks hS () hP hD (by first | (have e9 : i - q = 0 := (by omega); rw [e9] at hres; rw [if_pos (by omega), ← hres]; rfl) | (have e9 : i - q = (i - q - 1) + 1 := (by omega); rw [e9, saN] at hres; rw [if_pos (by omega), ← hres]; rfl)) dX6_stepAt_62
            · exact absurd (by decide) c32
          · have hl : lv_has ls 7 [(0, .ref (wd 0)), (1, .ref (ad 0)), (2, .int (nI v)), (3, .int (nI i)), (4, .int (nI x)), (5, .int (nI j)), (6, .int (nI q))] := hl
            have hlj := ho j rfl
            refine lv_iload hx hb dX6_stepAt_30 (lv_at hl 5 rfl) ?_
            refine nv_zlt (x := j) (tgt := 60) hx hb dX6_stepAt_32 (by decide) (by omega) ?_
            refine lv_aload_n hx hb dX6_stepAt_35 rfl (lv_at hl 1 rfl) ?_
            refine lv_iload hx hb dX6_stepAt_36 (lv_at hl 5 rfl) ?_
            refine lv_iload hx hb dX6_stepAt_38 (lv_at hl 4 rfl) ?_
            refine ca_Si (rest := []) (wr := wyw G wd w us) F hX (mX6_nextNode l G ad a r j x hT (by omega) (by omega)) (cA_S hts kw_451 kw_6 kw_449 kw_450 hdX6_nextNode ⟨Nat.le_of_ble_eq_true rfl, Nat.le_of_ble_eq_true rfl⟩) rfl hl.1 rfl (Nat.le_of_ble_eq_true rfl) dX6_stepAt_40 ⟨Nat.le_of_ble_eq_true rfl, Nat.le_of_ble_eq_true rfl⟩ hP hD hS hA (List.perm_append_comm) (fun r40 u40 H locs hp40 hP hD hS => ?_)
            have hP : va_P G.1 vwCl (wyw G wd w us ++ (tkw G ad a r)) H := wp_pm (List.perm_append_comm).symm hP
            have hD : va_D A (wyw G wd w us ++ (tkw G ad a r)) := wd_pm (List.perm_append_comm).symm hD
            subst hp40
            refine lv_istore (lv' := [(4, .int (nI (nxt (r 0) (r 1) j x))), (0, .ref (wd 0)), (1, .ref (ad 0)), (2, .int (nI v)), (3, .int (nI i)), (5, .int (nI j)), (6, .int (nI q))]) hx hb dX6_stepAt_43 hl (by decide) rfl (fun ls hl => ?_)
            refine lv_aload_n hx hb dX6_stepAt_45 rfl (lv_at hl 1 rfl) ?_
            refine lv_aload_n hx hb dX6_stepAt_46 rfl (lv_at hl 2 rfl) ?_
            refine lv_iload hx hb dX6_stepAt_47 (lv_at hl 0 rfl) ?_
            refine ca_Vi (ci := 5) (q := (RX6, TX6, 2)) (rest := []) (wr := ([] : va_W)) F hX (mX6_firstStep l G wd w us ad a r (nxt (r 0) (r 1) j x) hw hu hT (nxt_lt t5 t6 j x)) (cA_V hts kw_447 kw_6 kw_444 kw_446 kp_14 hdX6_firstStep ⟨Nat.le_of_ble_eq_true rfl, Nat.le_of_ble_eq_true rfl⟩) rfl rfl rfl hl.1 rfl (Nat.le_of_ble_eq_true rfl) dX6_stepAt_49 ⟨Nat.le_of_ble_eq_true rfl, Nat.le_of_ble_eq_true rfl⟩ hP hD hS hA (pm_nil _) (fun r49 u49 H locs hp49 hP hD hS => ?_)
            have hP : va_P G.1 vwCl (wyw G wd w us ++ (tkw G ad a r)) H := wp_pm (pm_nil _).symm hP
            have hD : va_D A (wyw G wd w us ++ (tkw G ad a r)) := wd_pm (pm_nil _).symm hD
            subst hp49
            refine lv_istore (lv' := [(5, .int (oN (fsO (r 0) (r 1) (r 2) w us (a 3) (nxt (r 0) (r 1) j x)))), (4, .int (nI (nxt (r 0) (r 1) j x))), (0, .ref (wd 0)), (1, .ref (ad 0)), (2, .int (nI v)), (3, .int (nI i)), (6, .int (nI q))]) hx hb dX6_stepAt_52 hl (by decide) rfl (fun ls hl => ?_)
            refine lv_iinc (v := (nI (q + 1))) (lv' := [(6, .int (nI (q + 1))), (5, .int (oN (fsO (r 0) (r 1) (r 2) w us (a 3) (nxt (r 0) (r 1) j x)))), (4, .int (nI (nxt (r 0) (r 1) j x))), (0, .ref (wd 0)), (1, .ref (ad 0)), (2, .int (nI v)), (3, .int (nI i))]) hx hb dX6_stepAt_54 hl (k := 6) rfl (qn_inc _) (by decide) rfl (fun ls hl => ?_)
            refine lv_goto (tgt := 24) hx hb dX6_stepAt_57 (by decide) ?_
            exact ih24 (q + 1) (nxt (r 0) (r 1) j x) (fsO (r 0) (r 1) (r 2) w us (a 3) (nxt (r 0) (r 1) j x)) (by omega) (by omega) (nxt_lt t5 t6 j x) (fun k h => by have := fsO_lt h; omega) (by have e9 : i - q = (i - (q + 1)) + 1 := (by omega); rw [e9, saN] at hres; exact hres) _ _ hP hD hS ls (lv_sub hl [3, 4, 5, 6, 2, 1, 0] rfl)
    exact lp24 _ 0 v (fsO (r 0) (r 1) (r 2) w us (a 3) v) (Nat.lt_succ_self _) (Nat.zero_le _) hv (fun k h => by have := fsO_lt h; omega) rfl _ _ hP hD hS ls (lv_sub hl [3, 4, 5, 6, 2, 1, 0] rfl)
  · refine lv_bipush (v := (-9)) hx hb dX6_stepAt_6 (by decide) ?_
    exact re_i (v := (-9)) hx hb hr hlocks hS () hP hD (by rw [if_neg (by omega)]; rfl) dX6_stepAt_8
end
