-- ===== PART A: goes FIRST, ahead of the names: the tables' words, and 'selects' of the private methods out of them =====
/-- a private method of a class that the tables say can be made, by its rows of tables_1 -/
def lw_okq (q : MethodName × Nat) : Prop := (q.1.cls ≠ "java/lang/invoke/MethodHandle" ∧ q.1.cls ≠ "java/lang/invoke/VarHandle") ∧ Cond.instantiable q.1.cls q.2 ∈ tables_1 ∧ Cond.privateMethod q.1 ∈ tables_1 ∧ Cond.instanceMethod q.1 ∈ tables_1
theorem lw_p0 : lw_okq (⟨"TermReader", "treeOf", "(I)LTermReader$Tree;"⟩, 7) := ⟨⟨by decide +kernel, by decide +kernel⟩, List.mem_of_getElem? (i := 20) (by decide +kernel), List.mem_of_getElem? (i := 238) (by decide +kernel), List.mem_of_getElem? (i := 239) (by decide +kernel)⟩
theorem lw_p1 : lw_okq (⟨"TermReader$Tokens", "scanWord", "(LTermReader$Bytes;II)I"⟩, 5) := ⟨⟨by decide +kernel, by decide +kernel⟩, List.mem_of_getElem? (i := 107) (by decide +kernel), List.mem_of_getElem? (i := 269) (by decide +kernel), List.mem_of_getElem? (i := 270) (by decide +kernel)⟩
theorem lw_p2 : lw_okq (⟨"TermReader$Tokens", "addToken", "(IIII)I"⟩, 5) := ⟨⟨by decide +kernel, by decide +kernel⟩, List.mem_of_getElem? (i := 107) (by decide +kernel), List.mem_of_getElem? (i := 279) (by decide +kernel), List.mem_of_getElem? (i := 280) (by decide +kernel)⟩
theorem lw_p3 : lw_okq (⟨"TermReader$Tokens", "scanSign", "(LTermReader$Bytes;II)I"⟩, 5) := ⟨⟨by decide +kernel, by decide +kernel⟩, List.mem_of_getElem? (i := 107) (by decide +kernel), List.mem_of_getElem? (i := 369) (by decide +kernel), List.mem_of_getElem? (i := 370) (by decide +kernel)⟩
theorem lw_p4 : lw_okq (⟨"TermReader$Parser", "takeDeclaration", "()Z"⟩, 8) := ⟨⟨by decide +kernel, by decide +kernel⟩, List.mem_of_getElem? (i := 101) (by decide +kernel), List.mem_of_getElem? (i := 384) (by decide +kernel), List.mem_of_getElem? (i := 385) (by decide +kernel)⟩
theorem lw_p5 : lw_okq (⟨"TermReader$Parser", "expandDeclaration", "()Z"⟩, 8) := ⟨⟨by decide +kernel, by decide +kernel⟩, List.mem_of_getElem? (i := 101) (by decide +kernel), List.mem_of_getElem? (i := 388) (by decide +kernel), List.mem_of_getElem? (i := 389) (by decide +kernel)⟩
theorem lw_p6 : lw_okq (⟨"TermReader$Parser", "begin", "([I)Z"⟩, 8) := ⟨⟨by decide +kernel, by decide +kernel⟩, List.mem_of_getElem? (i := 101) (by decide +kernel), List.mem_of_getElem? (i := 394) (by decide +kernel), List.mem_of_getElem? (i := 395) (by decide +kernel)⟩
theorem lw_p7 : lw_okq (⟨"TermReader$Parser", "await", "([I)Z"⟩, 8) := ⟨⟨by decide +kernel, by decide +kernel⟩, List.mem_of_getElem? (i := 101) (by decide +kernel), List.mem_of_getElem? (i := 402) (by decide +kernel), List.mem_of_getElem? (i := 403) (by decide +kernel)⟩
theorem lw_p8 : lw_okq (⟨"TermReader$Parser", "take", "(I)Z"⟩, 8) := ⟨⟨by decide +kernel, by decide +kernel⟩, List.mem_of_getElem? (i := 101) (by decide +kernel), List.mem_of_getElem? (i := 417) (by decide +kernel), List.mem_of_getElem? (i := 418) (by decide +kernel)⟩
theorem lw_p9 : lw_okq (⟨"TermReader$Parser", "finish", "(I)Z"⟩, 8) := ⟨⟨by decide +kernel, by decide +kernel⟩, List.mem_of_getElem? (i := 101) (by decide +kernel), List.mem_of_getElem? (i := 421) (by decide +kernel), List.mem_of_getElem? (i := 422) (by decide +kernel)⟩
theorem lw_p10 : lw_okq (⟨"TermReader$Parser", "takeToken", "(I)Z"⟩, 8) := ⟨⟨by decide +kernel, by decide +kernel⟩, List.mem_of_getElem? (i := 101) (by decide +kernel), List.mem_of_getElem? (i := 432) (by decide +kernel), List.mem_of_getElem? (i := 433) (by decide +kernel)⟩
theorem lw_p11 : lw_okq (⟨"TermReader$Parser", "isNot", "(I)Z"⟩, 8) := ⟨⟨by decide +kernel, by decide +kernel⟩, List.mem_of_getElem? (i := 101) (by decide +kernel), List.mem_of_getElem? (i := 436) (by decide +kernel), List.mem_of_getElem? (i := 437) (by decide +kernel)⟩
theorem lw_p12 : lw_okq (⟨"TermReader$Parser", "expandBinders", "()Z"⟩, 8) := ⟨⟨by decide +kernel, by decide +kernel⟩, List.mem_of_getElem? (i := 101) (by decide +kernel), List.mem_of_getElem? (i := 448) (by decide +kernel), List.mem_of_getElem? (i := 449) (by decide +kernel)⟩
theorem lw_p13 : lw_okq (⟨"TermReader$Parser", "takeLeaf", "(II)Z"⟩, 8) := ⟨⟨by decide +kernel, by decide +kernel⟩, List.mem_of_getElem? (i := 101) (by decide +kernel), List.mem_of_getElem? (i := 454) (by decide +kernel), List.mem_of_getElem? (i := 455) (by decide +kernel)⟩
theorem lw_p14 : lw_okq (⟨"TermReader$Parser", "expandTypeOrNothing", "()Z"⟩, 8) := ⟨⟨by decide +kernel, by decide +kernel⟩, List.mem_of_getElem? (i := 101) (by decide +kernel), List.mem_of_getElem? (i := 466) (by decide +kernel), List.mem_of_getElem? (i := 467) (by decide +kernel)⟩
theorem lw_p15 : lw_okq (⟨"TermReader$Parser", "expandTerm", "()Z"⟩, 8) := ⟨⟨by decide +kernel, by decide +kernel⟩, List.mem_of_getElem? (i := 101) (by decide +kernel), List.mem_of_getElem? (i := 472) (by decide +kernel), List.mem_of_getElem? (i := 473) (by decide +kernel)⟩
def lw_privs_1 : List (MethodName × Nat) := [(⟨"TermReader", "treeOf", "(I)LTermReader$Tree;"⟩, 7), (⟨"TermReader$Tokens", "scanWord", "(LTermReader$Bytes;II)I"⟩, 5), (⟨"TermReader$Tokens", "addToken", "(IIII)I"⟩, 5), (⟨"TermReader$Tokens", "scanSign", "(LTermReader$Bytes;II)I"⟩, 5), (⟨"TermReader$Parser", "takeDeclaration", "()Z"⟩, 8), (⟨"TermReader$Parser", "expandDeclaration", "()Z"⟩, 8), (⟨"TermReader$Parser", "begin", "([I)Z"⟩, 8), (⟨"TermReader$Parser", "await", "([I)Z"⟩, 8), (⟨"TermReader$Parser", "take", "(I)Z"⟩, 8), (⟨"TermReader$Parser", "finish", "(I)Z"⟩, 8), (⟨"TermReader$Parser", "takeToken", "(I)Z"⟩, 8), (⟨"TermReader$Parser", "isNot", "(I)Z"⟩, 8), (⟨"TermReader$Parser", "expandBinders", "()Z"⟩, 8), (⟨"TermReader$Parser", "takeLeaf", "(II)Z"⟩, 8), (⟨"TermReader$Parser", "expandTypeOrNothing", "()Z"⟩, 8), (⟨"TermReader$Parser", "expandTerm", "()Z"⟩, 8)]
theorem lw_r1 : ∀ q ∈ lw_privs_1, lw_okq q := List.forall_mem_cons.mpr ⟨lw_p0, List.forall_mem_cons.mpr ⟨lw_p1, List.forall_mem_cons.mpr ⟨lw_p2, List.forall_mem_cons.mpr ⟨lw_p3, List.forall_mem_cons.mpr ⟨lw_p4, List.forall_mem_cons.mpr ⟨lw_p5, List.forall_mem_cons.mpr ⟨lw_p6, List.forall_mem_cons.mpr ⟨lw_p7, List.forall_mem_cons.mpr ⟨lw_p8, List.forall_mem_cons.mpr ⟨lw_p9, List.forall_mem_cons.mpr ⟨lw_p10, List.forall_mem_cons.mpr ⟨lw_p11, List.forall_mem_cons.mpr ⟨lw_p12, List.forall_mem_cons.mpr ⟨lw_p13, List.forall_mem_cons.mpr ⟨lw_p14, List.forall_mem_cons.mpr ⟨lw_p15, fun _ h => absurd h List.not_mem_nil⟩⟩⟩⟩⟩⟩⟩⟩⟩⟩⟩⟩⟩⟩⟩⟩
theorem lw_p16 : lw_okq (⟨"TermReader$Parser", "goDeeper", "()Z"⟩, 8) := ⟨⟨by decide +kernel, by decide +kernel⟩, List.mem_of_getElem? (i := 101) (by decide +kernel), List.mem_of_getElem? (i := 484) (by decide +kernel), List.mem_of_getElem? (i := 485) (by decide +kernel)⟩
theorem lw_p17 : lw_okq (⟨"TermReader$Parser", "rise", "()Z"⟩, 8) := ⟨⟨by decide +kernel, by decide +kernel⟩, List.mem_of_getElem? (i := 101) (by decide +kernel), List.mem_of_getElem? (i := 490) (by decide +kernel), List.mem_of_getElem? (i := 491) (by decide +kernel)⟩
theorem lw_p18 : lw_okq (⟨"TermReader$Parser", "expandAtom", "()Z"⟩, 8) := ⟨⟨by decide +kernel, by decide +kernel⟩, List.mem_of_getElem? (i := 101) (by decide +kernel), List.mem_of_getElem? (i := 494) (by decide +kernel), List.mem_of_getElem? (i := 495) (by decide +kernel)⟩
theorem lw_p19 : lw_okq (⟨"TermReader$Parser", "expandMoreAtoms", "()Z"⟩, 8) := ⟨⟨by decide +kernel, by decide +kernel⟩, List.mem_of_getElem? (i := 101) (by decide +kernel), List.mem_of_getElem? (i := 502) (by decide +kernel), List.mem_of_getElem? (i := 503) (by decide +kernel)⟩
theorem lw_p20 : lw_okq (⟨"TermReader$Parser", "expandBracketEnd", "()Z"⟩, 8) := ⟨⟨by decide +kernel, by decide +kernel⟩, List.mem_of_getElem? (i := 101) (by decide +kernel), List.mem_of_getElem? (i := 518) (by decide +kernel), List.mem_of_getElem? (i := 519) (by decide +kernel)⟩
theorem lw_p21 : lw_okq (⟨"TermReader$Growth", "numberParts", "(ILTermReader$Tree;)V"⟩, 7) := ⟨⟨by decide +kernel, by decide +kernel⟩, List.mem_of_getElem? (i := 129) (by decide +kernel), List.mem_of_getElem? (i := 545) (by decide +kernel), List.mem_of_getElem? (i := 546) (by decide +kernel)⟩
theorem lw_p22 : lw_okq (⟨"TermReader$Names", "isSpelt", "(ILTermReader$Bytes;II)Z"⟩, 5) := ⟨⟨by decide +kernel, by decide +kernel⟩, List.mem_of_getElem? (i := 48) (by decide +kernel), List.mem_of_getElem? (i := 565) (by decide +kernel), List.mem_of_getElem? (i := 566) (by decide +kernel)⟩
theorem lw_p23 : lw_okq (⟨"TermReader$Names", "addName", "(LTermReader$Bytes;III)I"⟩, 5) := ⟨⟨by decide +kernel, by decide +kernel⟩, List.mem_of_getElem? (i := 48) (by decide +kernel), List.mem_of_getElem? (i := 577) (by decide +kernel), List.mem_of_getElem? (i := 578) (by decide +kernel)⟩
theorem lw_p24 : lw_okq (⟨"TermReader$Writer", "walk", "(LTermReader$Tree;LTermReader$Names;I)V"⟩, 2) := ⟨⟨by decide +kernel, by decide +kernel⟩, List.mem_of_getElem? (i := 184) (by decide +kernel), List.mem_of_getElem? (i := 636) (by decide +kernel), List.mem_of_getElem? (i := 637) (by decide +kernel)⟩
theorem lw_p25 : lw_okq (⟨"TermReader$Writer", "enter", "(LTermReader$Tree;LTermReader$Names;IZ)V"⟩, 2) := ⟨⟨by decide +kernel, by decide +kernel⟩, List.mem_of_getElem? (i := 184) (by decide +kernel), List.mem_of_getElem? (i := 644) (by decide +kernel), List.mem_of_getElem? (i := 645) (by decide +kernel)⟩
theorem lw_p26 : lw_okq (⟨"TermReader$Writer", "putToken", "(I)V"⟩, 2) := ⟨⟨by decide +kernel, by decide +kernel⟩, List.mem_of_getElem? (i := 184) (by decide +kernel), List.mem_of_getElem? (i := 668) (by decide +kernel), List.mem_of_getElem? (i := 669) (by decide +kernel)⟩
theorem lw_p27 : lw_okq (⟨"TermReader$Writer", "putBlank", "()V"⟩, 2) := ⟨⟨by decide +kernel, by decide +kernel⟩, List.mem_of_getElem? (i := 184) (by decide +kernel), List.mem_of_getElem? (i := 672) (by decide +kernel), List.mem_of_getElem? (i := 673) (by decide +kernel)⟩
theorem lw_p28 : lw_okq (⟨"TermReader$Writer", "putText", "(Ljava/lang/String;)V"⟩, 2) := ⟨⟨by decide +kernel, by decide +kernel⟩, List.mem_of_getElem? (i := 184) (by decide +kernel), List.mem_of_getElem? (i := 679) (by decide +kernel), List.mem_of_getElem? (i := 680) (by decide +kernel)⟩
theorem lw_p29 : lw_okq (⟨"TermReader$Writer", "putName", "(LTermReader$Names;I)V"⟩, 2) := ⟨⟨by decide +kernel, by decide +kernel⟩, List.mem_of_getElem? (i := 184) (by decide +kernel), List.mem_of_getElem? (i := 692) (by decide +kernel), List.mem_of_getElem? (i := 693) (by decide +kernel)⟩
theorem lw_p30 : lw_okq (⟨"TermReader$Writer", "putSort", "(I)V"⟩, 2) := ⟨⟨by decide +kernel, by decide +kernel⟩, List.mem_of_getElem? (i := 184) (by decide +kernel), List.mem_of_getElem? (i := 698) (by decide +kernel), List.mem_of_getElem? (i := 699) (by decide +kernel)⟩
theorem lw_p31 : lw_okq (⟨"TermReader$Writer", "leave", "(LTermReader$Tree;IZ)V"⟩, 2) := ⟨⟨by decide +kernel, by decide +kernel⟩, List.mem_of_getElem? (i := 184) (by decide +kernel), List.mem_of_getElem? (i := 707) (by decide +kernel), List.mem_of_getElem? (i := 708) (by decide +kernel)⟩
def lw_privs_2 : List (MethodName × Nat) := [(⟨"TermReader$Parser", "goDeeper", "()Z"⟩, 8), (⟨"TermReader$Parser", "rise", "()Z"⟩, 8), (⟨"TermReader$Parser", "expandAtom", "()Z"⟩, 8), (⟨"TermReader$Parser", "expandMoreAtoms", "()Z"⟩, 8), (⟨"TermReader$Parser", "expandBracketEnd", "()Z"⟩, 8), (⟨"TermReader$Growth", "numberParts", "(ILTermReader$Tree;)V"⟩, 7), (⟨"TermReader$Names", "isSpelt", "(ILTermReader$Bytes;II)Z"⟩, 5), (⟨"TermReader$Names", "addName", "(LTermReader$Bytes;III)I"⟩, 5), (⟨"TermReader$Writer", "walk", "(LTermReader$Tree;LTermReader$Names;I)V"⟩, 2), (⟨"TermReader$Writer", "enter", "(LTermReader$Tree;LTermReader$Names;IZ)V"⟩, 2), (⟨"TermReader$Writer", "putToken", "(I)V"⟩, 2), (⟨"TermReader$Writer", "putBlank", "()V"⟩, 2), (⟨"TermReader$Writer", "putText", "(Ljava/lang/String;)V"⟩, 2), (⟨"TermReader$Writer", "putName", "(LTermReader$Names;I)V"⟩, 2), (⟨"TermReader$Writer", "putSort", "(I)V"⟩, 2), (⟨"TermReader$Writer", "leave", "(LTermReader$Tree;IZ)V"⟩, 2)]
theorem lw_r2 : ∀ q ∈ lw_privs_2, lw_okq q := List.forall_mem_cons.mpr ⟨lw_p16, List.forall_mem_cons.mpr ⟨lw_p17, List.forall_mem_cons.mpr ⟨lw_p18, List.forall_mem_cons.mpr ⟨lw_p19, List.forall_mem_cons.mpr ⟨lw_p20, List.forall_mem_cons.mpr ⟨lw_p21, List.forall_mem_cons.mpr ⟨lw_p22, List.forall_mem_cons.mpr ⟨lw_p23, List.forall_mem_cons.mpr ⟨lw_p24, List.forall_mem_cons.mpr ⟨lw_p25, List.forall_mem_cons.mpr ⟨lw_p26, List.forall_mem_cons.mpr ⟨lw_p27, List.forall_mem_cons.mpr ⟨lw_p28, List.forall_mem_cons.mpr ⟨lw_p29, List.forall_mem_cons.mpr ⟨lw_p30, List.forall_mem_cons.mpr ⟨lw_p31, fun _ h => absurd h List.not_mem_nil⟩⟩⟩⟩⟩⟩⟩⟩⟩⟩⟩⟩⟩⟩⟩⟩
theorem lw_p32 : lw_okq (⟨"TermReaderModel", "clear", "(I)V"⟩, 32) := ⟨⟨by decide +kernel, by decide +kernel⟩, List.mem_of_getElem? (i := 738) (by decide +kernel), List.mem_of_getElem? (i := 757) (by decide +kernel), List.mem_of_getElem? (i := 758) (by decide +kernel)⟩
theorem lw_p33 : lw_okq (⟨"TermReaderModel", "add", "(IIIII)I"⟩, 32) := ⟨⟨by decide +kernel, by decide +kernel⟩, List.mem_of_getElem? (i := 738) (by decide +kernel), List.mem_of_getElem? (i := 761) (by decide +kernel), List.mem_of_getElem? (i := 762) (by decide +kernel)⟩
theorem lw_p34 : lw_okq (⟨"TermReaderModel", "scan", "()V"⟩, 32) := ⟨⟨by decide +kernel, by decide +kernel⟩, List.mem_of_getElem? (i := 738) (by decide +kernel), List.mem_of_getElem? (i := 870) (by decide +kernel), List.mem_of_getElem? (i := 871) (by decide +kernel)⟩
theorem lw_p35 : lw_okq (⟨"TermReaderModel", "behindBlanks", "(I)I"⟩, 32) := ⟨⟨by decide +kernel, by decide +kernel⟩, List.mem_of_getElem? (i := 738) (by decide +kernel), List.mem_of_getElem? (i := 874) (by decide +kernel), List.mem_of_getElem? (i := 875) (by decide +kernel)⟩
theorem lw_p36 : lw_okq (⟨"TermReaderModel", "isAt", "(III)Z"⟩, 32) := ⟨⟨by decide +kernel, by decide +kernel⟩, List.mem_of_getElem? (i := 738) (by decide +kernel), List.mem_of_getElem? (i := 878) (by decide +kernel), List.mem_of_getElem? (i := 879) (by decide +kernel)⟩
theorem lw_p37 : lw_okq (⟨"TermReaderModel", "wordOf", "(II)I"⟩, 32) := ⟨⟨by decide +kernel, by decide +kernel⟩, List.mem_of_getElem? (i := 738) (by decide +kernel), List.mem_of_getElem? (i := 888) (by decide +kernel), List.mem_of_getElem? (i := 889) (by decide +kernel)⟩
theorem lw_p38 : lw_okq (⟨"TermReaderModel", "spells", "(IILjava/lang/String;)Z"⟩, 32) := ⟨⟨by decide +kernel, by decide +kernel⟩, List.mem_of_getElem? (i := 738) (by decide +kernel), List.mem_of_getElem? (i := 892) (by decide +kernel), List.mem_of_getElem? (i := 893) (by decide +kernel)⟩
theorem lw_p39 : lw_okq (⟨"TermReaderModel", "token", "(III)V"⟩, 32) := ⟨⟨by decide +kernel, by decide +kernel⟩, List.mem_of_getElem? (i := 738) (by decide +kernel), List.mem_of_getElem? (i := 900) (by decide +kernel), List.mem_of_getElem? (i := 901) (by decide +kernel)⟩
theorem lw_p40 : lw_okq (⟨"TermReaderModel", "look", "()I"⟩, 32) := ⟨⟨by decide +kernel, by decide +kernel⟩, List.mem_of_getElem? (i := 738) (by decide +kernel), List.mem_of_getElem? (i := 904) (by decide +kernel), List.mem_of_getElem? (i := 905) (by decide +kernel)⟩
theorem lw_p41 : lw_okq (⟨"TermReaderModel", "declaration", "()I"⟩, 32) := ⟨⟨by decide +kernel, by decide +kernel⟩, List.mem_of_getElem? (i := 738) (by decide +kernel), List.mem_of_getElem? (i := 908) (by decide +kernel), List.mem_of_getElem? (i := 909) (by decide +kernel)⟩
theorem lw_p42 : lw_okq (⟨"TermReaderModel", "need", "(Z)V"⟩, 32) := ⟨⟨by decide +kernel, by decide +kernel⟩, List.mem_of_getElem? (i := 738) (by decide +kernel), List.mem_of_getElem? (i := 912) (by decide +kernel), List.mem_of_getElem? (i := 913) (by decide +kernel)⟩
theorem lw_p43 : lw_okq (⟨"TermReaderModel", "draft", "(III)I"⟩, 32) := ⟨⟨by decide +kernel, by decide +kernel⟩, List.mem_of_getElem? (i := 738) (by decide +kernel), List.mem_of_getElem? (i := 916) (by decide +kernel), List.mem_of_getElem? (i := 917) (by decide +kernel)⟩
theorem lw_p44 : lw_okq (⟨"TermReaderModel", "take", "(I)V"⟩, 32) := ⟨⟨by decide +kernel, by decide +kernel⟩, List.mem_of_getElem? (i := 738) (by decide +kernel), List.mem_of_getElem? (i := 920) (by decide +kernel), List.mem_of_getElem? (i := 921) (by decide +kernel)⟩
theorem lw_p45 : lw_okq (⟨"TermReaderModel", "name", "(I)I"⟩, 32) := ⟨⟨by decide +kernel, by decide +kernel⟩, List.mem_of_getElem? (i := 738) (by decide +kernel), List.mem_of_getElem? (i := 924) (by decide +kernel), List.mem_of_getElem? (i := 925) (by decide +kernel)⟩
theorem lw_p46 : lw_okq (⟨"TermReaderModel", "join", "(II)V"⟩, 32) := ⟨⟨by decide +kernel, by decide +kernel⟩, List.mem_of_getElem? (i := 738) (by decide +kernel), List.mem_of_getElem? (i := 928) (by decide +kernel), List.mem_of_getElem? (i := 929) (by decide +kernel)⟩
theorem lw_p47 : lw_okq (⟨"TermReaderModel", "groups", "(II)V"⟩, 32) := ⟨⟨by decide +kernel, by decide +kernel⟩, List.mem_of_getElem? (i := 738) (by decide +kernel), List.mem_of_getElem? (i := 932) (by decide +kernel), List.mem_of_getElem? (i := 933) (by decide +kernel)⟩
def lw_privs_3 : List (MethodName × Nat) := [(⟨"TermReaderModel", "clear", "(I)V"⟩, 32), (⟨"TermReaderModel", "add", "(IIIII)I"⟩, 32), (⟨"TermReaderModel", "scan", "()V"⟩, 32), (⟨"TermReaderModel", "behindBlanks", "(I)I"⟩, 32), (⟨"TermReaderModel", "isAt", "(III)Z"⟩, 32), (⟨"TermReaderModel", "wordOf", "(II)I"⟩, 32), (⟨"TermReaderModel", "spells", "(IILjava/lang/String;)Z"⟩, 32), (⟨"TermReaderModel", "token", "(III)V"⟩, 32), (⟨"TermReaderModel", "look", "()I"⟩, 32), (⟨"TermReaderModel", "declaration", "()I"⟩, 32), (⟨"TermReaderModel", "need", "(Z)V"⟩, 32), (⟨"TermReaderModel", "draft", "(III)I"⟩, 32), (⟨"TermReaderModel", "take", "(I)V"⟩, 32), (⟨"TermReaderModel", "name", "(I)I"⟩, 32), (⟨"TermReaderModel", "join", "(II)V"⟩, 32), (⟨"TermReaderModel", "groups", "(II)V"⟩, 32)]
theorem lw_r3 : ∀ q ∈ lw_privs_3, lw_okq q := List.forall_mem_cons.mpr ⟨lw_p32, List.forall_mem_cons.mpr ⟨lw_p33, List.forall_mem_cons.mpr ⟨lw_p34, List.forall_mem_cons.mpr ⟨lw_p35, List.forall_mem_cons.mpr ⟨lw_p36, List.forall_mem_cons.mpr ⟨lw_p37, List.forall_mem_cons.mpr ⟨lw_p38, List.forall_mem_cons.mpr ⟨lw_p39, List.forall_mem_cons.mpr ⟨lw_p40, List.forall_mem_cons.mpr ⟨lw_p41, List.forall_mem_cons.mpr ⟨lw_p42, List.forall_mem_cons.mpr ⟨lw_p43, List.forall_mem_cons.mpr ⟨lw_p44, List.forall_mem_cons.mpr ⟨lw_p45, List.forall_mem_cons.mpr ⟨lw_p46, List.forall_mem_cons.mpr ⟨lw_p47, fun _ h => absurd h List.not_mem_nil⟩⟩⟩⟩⟩⟩⟩⟩⟩⟩⟩⟩⟩⟩⟩⟩
theorem lw_p48 : lw_okq (⟨"TermReaderModel", "members", "(II)V"⟩, 32) := ⟨⟨by decide +kernel, by decide +kernel⟩, List.mem_of_getElem? (i := 738) (by decide +kernel), List.mem_of_getElem? (i := 936) (by decide +kernel), List.mem_of_getElem? (i := 937) (by decide +kernel)⟩
theorem lw_p49 : lw_okq (⟨"TermReaderModel", "term", "(I)I"⟩, 32) := ⟨⟨by decide +kernel, by decide +kernel⟩, List.mem_of_getElem? (i := 738) (by decide +kernel), List.mem_of_getElem? (i := 940) (by decide +kernel), List.mem_of_getElem? (i := 941) (by decide +kernel)⟩
theorem lw_p50 : lw_okq (⟨"TermReaderModel", "told", "(I)I"⟩, 32) := ⟨⟨by decide +kernel, by decide +kernel⟩, List.mem_of_getElem? (i := 738) (by decide +kernel), List.mem_of_getElem? (i := 944) (by decide +kernel), List.mem_of_getElem? (i := 945) (by decide +kernel)⟩
theorem lw_p51 : lw_okq (⟨"TermReaderModel", "isAtom", "()Z"⟩, 32) := ⟨⟨by decide +kernel, by decide +kernel⟩, List.mem_of_getElem? (i := 738) (by decide +kernel), List.mem_of_getElem? (i := 948) (by decide +kernel), List.mem_of_getElem? (i := 949) (by decide +kernel)⟩
theorem lw_p52 : lw_okq (⟨"TermReaderModel", "atom", "(I)I"⟩, 32) := ⟨⟨by decide +kernel, by decide +kernel⟩, List.mem_of_getElem? (i := 738) (by decide +kernel), List.mem_of_getElem? (i := 952) (by decide +kernel), List.mem_of_getElem? (i := 953) (by decide +kernel)⟩
theorem lw_p53 : lw_okq (⟨"TermReaderModel", "sort", "()I"⟩, 32) := ⟨⟨by decide +kernel, by decide +kernel⟩, List.mem_of_getElem? (i := 738) (by decide +kernel), List.mem_of_getElem? (i := 956) (by decide +kernel), List.mem_of_getElem? (i := 957) (by decide +kernel)⟩
theorem lw_p54 : lw_okq (⟨"TermReaderModel", "keep", "(II)V"⟩, 32) := ⟨⟨by decide +kernel, by decide +kernel⟩, List.mem_of_getElem? (i := 738) (by decide +kernel), List.mem_of_getElem? (i := 960) (by decide +kernel), List.mem_of_getElem? (i := 961) (by decide +kernel)⟩
theorem lw_p55 : lw_okq (⟨"TermReaderModel", "number", "(I)I"⟩, 32) := ⟨⟨by decide +kernel, by decide +kernel⟩, List.mem_of_getElem? (i := 738) (by decide +kernel), List.mem_of_getElem? (i := 964) (by decide +kernel), List.mem_of_getElem? (i := 965) (by decide +kernel)⟩
theorem lw_p56 : lw_okq (⟨"TermReaderModel", "has", "(II)Z"⟩, 32) := ⟨⟨by decide +kernel, by decide +kernel⟩, List.mem_of_getElem? (i := 738) (by decide +kernel), List.mem_of_getElem? (i := 980) (by decide +kernel), List.mem_of_getElem? (i := 981) (by decide +kernel)⟩
theorem lw_p57 : lw_okq (⟨"TermReaderModel", "parts", "(II)I"⟩, 32) := ⟨⟨by decide +kernel, by decide +kernel⟩, List.mem_of_getElem? (i := 738) (by decide +kernel), List.mem_of_getElem? (i := 988) (by decide +kernel), List.mem_of_getElem? (i := 989) (by decide +kernel)⟩
theorem lw_p58 : lw_okq (⟨"TermReaderModel", "show", "(II)V"⟩, 32) := ⟨⟨by decide +kernel, by decide +kernel⟩, List.mem_of_getElem? (i := 738) (by decide +kernel), List.mem_of_getElem? (i := 1013) (by decide +kernel), List.mem_of_getElem? (i := 1014) (by decide +kernel)⟩
theorem lw_p59 : lw_okq (⟨"TermReaderModel", "kindAt", "(II)I"⟩, 32) := ⟨⟨by decide +kernel, by decide +kernel⟩, List.mem_of_getElem? (i := 738) (by decide +kernel), List.mem_of_getElem? (i := 1017) (by decide +kernel), List.mem_of_getElem? (i := 1018) (by decide +kernel)⟩
theorem lw_p60 : lw_okq (⟨"TermReaderModel", "put", "(I)V"⟩, 32) := ⟨⟨by decide +kernel, by decide +kernel⟩, List.mem_of_getElem? (i := 738) (by decide +kernel), List.mem_of_getElem? (i := 1021) (by decide +kernel), List.mem_of_getElem? (i := 1022) (by decide +kernel)⟩
theorem lw_p61 : lw_okq (⟨"TermReaderModel", "text", "(Ljava/lang/String;)V"⟩, 32) := ⟨⟨by decide +kernel, by decide +kernel⟩, List.mem_of_getElem? (i := 738) (by decide +kernel), List.mem_of_getElem? (i := 1026) (by decide +kernel), List.mem_of_getElem? (i := 1027) (by decide +kernel)⟩
theorem lw_p62 : lw_okq (⟨"TermReaderModel", "sayDeclaration", "(II)V"⟩, 32) := ⟨⟨by decide +kernel, by decide +kernel⟩, List.mem_of_getElem? (i := 738) (by decide +kernel), List.mem_of_getElem? (i := 1030) (by decide +kernel), List.mem_of_getElem? (i := 1031) (by decide +kernel)⟩
theorem lw_p63 : lw_okq (⟨"TermReaderModel", "sayTold", "(II)V"⟩, 32) := ⟨⟨by decide +kernel, by decide +kernel⟩, List.mem_of_getElem? (i := 738) (by decide +kernel), List.mem_of_getElem? (i := 1034) (by decide +kernel), List.mem_of_getElem? (i := 1035) (by decide +kernel)⟩
def lw_privs_4 : List (MethodName × Nat) := [(⟨"TermReaderModel", "members", "(II)V"⟩, 32), (⟨"TermReaderModel", "term", "(I)I"⟩, 32), (⟨"TermReaderModel", "told", "(I)I"⟩, 32), (⟨"TermReaderModel", "isAtom", "()Z"⟩, 32), (⟨"TermReaderModel", "atom", "(I)I"⟩, 32), (⟨"TermReaderModel", "sort", "()I"⟩, 32), (⟨"TermReaderModel", "keep", "(II)V"⟩, 32), (⟨"TermReaderModel", "number", "(I)I"⟩, 32), (⟨"TermReaderModel", "has", "(II)Z"⟩, 32), (⟨"TermReaderModel", "parts", "(II)I"⟩, 32), (⟨"TermReaderModel", "show", "(II)V"⟩, 32), (⟨"TermReaderModel", "kindAt", "(II)I"⟩, 32), (⟨"TermReaderModel", "put", "(I)V"⟩, 32), (⟨"TermReaderModel", "text", "(Ljava/lang/String;)V"⟩, 32), (⟨"TermReaderModel", "sayDeclaration", "(II)V"⟩, 32), (⟨"TermReaderModel", "sayTold", "(II)V"⟩, 32)]
theorem lw_r4 : ∀ q ∈ lw_privs_4, lw_okq q := List.forall_mem_cons.mpr ⟨lw_p48, List.forall_mem_cons.mpr ⟨lw_p49, List.forall_mem_cons.mpr ⟨lw_p50, List.forall_mem_cons.mpr ⟨lw_p51, List.forall_mem_cons.mpr ⟨lw_p52, List.forall_mem_cons.mpr ⟨lw_p53, List.forall_mem_cons.mpr ⟨lw_p54, List.forall_mem_cons.mpr ⟨lw_p55, List.forall_mem_cons.mpr ⟨lw_p56, List.forall_mem_cons.mpr ⟨lw_p57, List.forall_mem_cons.mpr ⟨lw_p58, List.forall_mem_cons.mpr ⟨lw_p59, List.forall_mem_cons.mpr ⟨lw_p60, List.forall_mem_cons.mpr ⟨lw_p61, List.forall_mem_cons.mpr ⟨lw_p62, List.forall_mem_cons.mpr ⟨lw_p63, fun _ h => absurd h List.not_mem_nil⟩⟩⟩⟩⟩⟩⟩⟩⟩⟩⟩⟩⟩⟩⟩⟩
theorem lw_p64 : lw_okq (⟨"TermReaderModel", "sayGroup", "(II)V"⟩, 32) := ⟨⟨by decide +kernel, by decide +kernel⟩, List.mem_of_getElem? (i := 738) (by decide +kernel), List.mem_of_getElem? (i := 1040) (by decide +kernel), List.mem_of_getElem? (i := 1041) (by decide +kernel)⟩
theorem lw_p65 : lw_okq (⟨"TermReaderModel", "sayName", "(I)V"⟩, 32) := ⟨⟨by decide +kernel, by decide +kernel⟩, List.mem_of_getElem? (i := 738) (by decide +kernel), List.mem_of_getElem? (i := 1044) (by decide +kernel), List.mem_of_getElem? (i := 1045) (by decide +kernel)⟩
theorem lw_p66 : lw_okq (⟨"TermReaderModel", "bracket", "(IIZ)V"⟩, 32) := ⟨⟨by decide +kernel, by decide +kernel⟩, List.mem_of_getElem? (i := 738) (by decide +kernel), List.mem_of_getElem? (i := 1057) (by decide +kernel), List.mem_of_getElem? (i := 1058) (by decide +kernel)⟩
theorem lw_p67 : lw_okq (⟨"TermReaderModel", "sayApplied", "(II)V"⟩, 32) := ⟨⟨by decide +kernel, by decide +kernel⟩, List.mem_of_getElem? (i := 738) (by decide +kernel), List.mem_of_getElem? (i := 1062) (by decide +kernel), List.mem_of_getElem? (i := 1063) (by decide +kernel)⟩
def lw_privs_5 : List (MethodName × Nat) := [(⟨"TermReaderModel", "sayGroup", "(II)V"⟩, 32), (⟨"TermReaderModel", "sayName", "(I)V"⟩, 32), (⟨"TermReaderModel", "bracket", "(IIZ)V"⟩, 32), (⟨"TermReaderModel", "sayApplied", "(II)V"⟩, 32)]
theorem lw_r5 : ∀ q ∈ lw_privs_5, lw_okq q := List.forall_mem_cons.mpr ⟨lw_p64, List.forall_mem_cons.mpr ⟨lw_p65, List.forall_mem_cons.mpr ⟨lw_p66, List.forall_mem_cons.mpr ⟨lw_p67, fun _ h => absurd h List.not_mem_nil⟩⟩⟩⟩
def lw_privs : List (MethodName × Nat) := lw_privs_1 ++ (lw_privs_2 ++ (lw_privs_3 ++ (lw_privs_4 ++ (lw_privs_5))))
def lw_tbl : List Cond := k2_sels lw_privs ++ tables_1
theorem lw_privs_ok : ∀ q ∈ lw_privs, lw_okq q := by
  show ∀ q ∈ lw_privs_1 ++ (lw_privs_2 ++ (lw_privs_3 ++ (lw_privs_4 ++ (lw_privs_5)))), lw_okq q
  exact List.forall_mem_append.mpr ⟨lw_r1, List.forall_mem_append.mpr ⟨lw_r2, List.forall_mem_append.mpr ⟨lw_r3, List.forall_mem_append.mpr ⟨lw_r4, lw_r5⟩⟩⟩⟩

def gw : List Cond := lw_tbl.filter goodWord
theorem gw_in {c : Cond} {ws : List Cond} (h : ∀ w ∈ ws, w ∈ gw) : GoodIn (c :: gw) ws := fun w hw => ⟨List.mem_cons_of_mem _ (h w hw), good_of_word (List.mem_filter.mp (h w hw)).2⟩
theorem gw_tbl : ∀ w ∈ gw, w ∈ lw_tbl := fun w h => (List.mem_filter.mp h).1
theorem jgV {c : Cond} {own C : String} {idx n : Nat} {y : MethodName} {b : ByteArray} {r : Option FieldType} (h1 : Cond.methodLink own idx y ∈ gw) (h2 : Cond.instanceMethod y ∈ gw) (h3 : Cond.selects C y y ∈ gw) (h4 : Cond.initialized C ∈ gw) (h5 : Cond.code y b n r ∈ gw) : GoodIn (c :: gw) (wsV own idx C y (Cond.code y b n r :: gw)) := gw_in (fun w hw => by
  unfold wsV at hw
  simp only [List.cons_append, List.nil_append, List.mem_cons] at hw
  rcases hw with rfl | rfl | rfl | rfl | rfl | hw
  · exact h1
  · exact h2
  · exact h3
  · exact h4
  · exact h5
  · exact hw)
theorem jgS {c : Cond} {own : String} {idx n : Nat} {y : MethodName} {b : ByteArray} {r : Option FieldType} (h1 : Cond.methodLink own idx y ∈ gw) (h2 : Cond.static y ∈ gw) (h4 : Cond.initialized y.cls ∈ gw) (h5 : Cond.code y b n r ∈ gw) : GoodIn (c :: gw) (va_wsS own idx y (Cond.code y b n r :: gw)) := gw_in (fun w hw => by
  unfold va_wsS at hw
  simp only [List.cons_append, List.nil_append, List.mem_cons] at hw
  rcases hw with rfl | rfl | rfl | rfl | hw
  · exact h1
  · exact h2
  · exact h4
  · exact h5
  · exact hw)
theorem jgC {c : Cond} {n : Nat} {y : MethodName} {b : ByteArray} {r : Option FieldType} (h5 : Cond.code y b n r ∈ gw) : GoodIn (c :: gw) (Cond.code y b n r :: gw) := gw_in (fun w hw => by
  simp only [List.mem_cons] at hw
  rcases hw with rfl | hw
  · exact h5
  · exact hw)
def R_By : String := "TermReader$Bytes"
def R_Gr : String := "TermReader$Growth"
def R_Ki : String := "TermReader$Kind"
def R_Na : String := "TermReader$Names"
def R_Pa : String := "TermReader$Parser"
def R_To : String := "TermReader$Token"
def R_Tk : String := "TermReader$Tokens"
def R_Tr : String := "TermReader$Tree"
def R_Wr : String := "TermReader$Writer"
def R_TR : String := "TermReader"
def R_Mo : String := "TermReaderModel"
def R_La : String := "TermReaderLaw"
def R_Js : String := "java/lang/String"
def R_Jl : String := "java/lang/StringLatin1"
def R_Jm : String := "java/lang/Math"
def R_Jp : String := "jdk/internal/util/Preconditions"
def R_Ru : String := "TermReader$Rule"
def T_By : u_T := fun k => match k with
  | 0 => ("TermReader$Bytes", "row", "[B", true)
  | 1 => ("TermReader$Bytes", "length", "I", false)
  | _ => ("TermReader$Bytes", "overrun", "Z", false)
def ty_By : Nat → FieldType := fun k => match k with
  | 0 => .array .byte
  | 1 => .int
  | _ => .boolean
theorem nm_By : ∀ a, a < 3 → ∀ b, b < 3 → a ≠ b → (T_By a).2.1 ≠ (T_By b).2.1 := by decide +kernel
theorem tyok_By : ∀ k, k < 3 → parseFieldDescriptor (T_By k).2.2.1 = some (ty_By k) := by decide +kernel
theorem in_By : ∀ w ∈ u_ws R_By T_By 3, w ∈ gw := by decide +kernel
def T_Gr : u_T := fun k => match k with
  | 0 => ("TermReader$Growth", "kinds", "[I", true)
  | 1 => ("TermReader$Growth", "places", "[I", true)
  | 2 => ("TermReader$Growth", "values", "[I", true)
  | 3 => ("TermReader$Growth", "sizes", "[I", true)
  | 4 => ("TermReader$Growth", "partCounts", "[I", true)
  | 5 => ("TermReader$Growth", "numbers", "[I", true)
  | _ => ("TermReader$Growth", "count", "I", false)
def ty_Gr : Nat → FieldType := fun k => match k with
  | 0 => .array .int
  | 1 => .array .int
  | 2 => .array .int
  | 3 => .array .int
  | 4 => .array .int
  | 5 => .array .int
  | _ => .int
theorem nm_Gr : ∀ a, a < 7 → ∀ b, b < 7 → a ≠ b → (T_Gr a).2.1 ≠ (T_Gr b).2.1 := by decide +kernel
theorem tyok_Gr : ∀ k, k < 7 → parseFieldDescriptor (T_Gr k).2.2.1 = some (ty_Gr k) := by decide +kernel
theorem in_Gr : ∀ w ∈ u_ws R_Gr T_Gr 7, w ∈ gw := by decide +kernel
def T_Na : u_T := fun k => match k with
  | 0 => ("TermReader$Names", "spelling", "[B", true)
  | 1 => ("TermReader$Names", "starts", "[I", true)
  | 2 => ("TermReader$Names", "newest", "[I", true)
  | 3 => ("TermReader$Names", "older", "[I", true)
  | _ => ("TermReader$Names", "count", "I", false)
def ty_Na : Nat → FieldType := fun k => match k with
  | 0 => .array .byte
  | 1 => .array .int
  | 2 => .array .int
  | 3 => .array .int
  | _ => .int
theorem nm_Na : ∀ a, a < 5 → ∀ b, b < 5 → a ≠ b → (T_Na a).2.1 ≠ (T_Na b).2.1 := by decide +kernel
theorem tyok_Na : ∀ k, k < 5 → parseFieldDescriptor (T_Na k).2.2.1 = some (ty_Na k) := by decide +kernel
theorem in_Na : ∀ w ∈ u_ws R_Na T_Na 5, w ∈ gw := by decide +kernel
def T_Pa : u_T := fun k => match k with
  | 0 => ("TermReader$Parser", "tokens", "LTermReader$Tokens;", true)
  | 1 => ("TermReader$Parser", "growth", "LTermReader$Growth;", true)
  | 2 => ("TermReader$Parser", "waiting", "[I", true)
  | 3 => ("TermReader$Parser", "waitingCount", "I", false)
  | 4 => ("TermReader$Parser", "begunPlaces", "[I", true)
  | 5 => ("TermReader$Parser", "begunFrom", "[I", true)
  | 6 => ("TermReader$Parser", "begunCount", "I", false)
  | _ => ("TermReader$Parser", "depth", "I", false)
def ty_Pa : Nat → FieldType := fun k => match k with
  | 0 => .object "TermReader$Tokens"
  | 1 => .object "TermReader$Growth"
  | 2 => .array .int
  | 3 => .int
  | 4 => .array .int
  | 5 => .array .int
  | 6 => .int
  | _ => .int
theorem nm_Pa : ∀ a, a < 8 → ∀ b, b < 8 → a ≠ b → (T_Pa a).2.1 ≠ (T_Pa b).2.1 := by decide +kernel
theorem tyok_Pa : ∀ k, k < 8 → parseFieldDescriptor (T_Pa k).2.2.1 = some (ty_Pa k) := by decide +kernel
theorem in_Pa : ∀ w ∈ u_ws R_Pa T_Pa 8, w ∈ gw := by decide +kernel
def T_Tk : u_T := fun k => match k with
  | 0 => ("TermReader$Tokens", "kinds", "[I", true)
  | 1 => ("TermReader$Tokens", "places", "[I", true)
  | 2 => ("TermReader$Tokens", "values", "[I", true)
  | 3 => ("TermReader$Tokens", "count", "I", false)
  | _ => ("TermReader$Tokens", "next", "I", false)
def ty_Tk : Nat → FieldType := fun k => match k with
  | 0 => .array .int
  | 1 => .array .int
  | 2 => .array .int
  | 3 => .int
  | _ => .int
theorem nm_Tk : ∀ a, a < 5 → ∀ b, b < 5 → a ≠ b → (T_Tk a).2.1 ≠ (T_Tk b).2.1 := by decide +kernel
theorem tyok_Tk : ∀ k, k < 5 → parseFieldDescriptor (T_Tk k).2.2.1 = some (ty_Tk k) := by decide +kernel
theorem in_Tk : ∀ w ∈ u_ws R_Tk T_Tk 5, w ∈ gw := by decide +kernel
def T_Tr : u_T := fun k => match k with
  | 0 => ("TermReader$Tree", "kinds", "[I", true)
  | 1 => ("TermReader$Tree", "places", "[I", true)
  | 2 => ("TermReader$Tree", "values", "[I", true)
  | 3 => ("TermReader$Tree", "sizes", "[I", true)
  | 4 => ("TermReader$Tree", "partCounts", "[I", true)
  | 5 => ("TermReader$Tree", "wholes", "[I", true)
  | _ => ("TermReader$Tree", "count", "I", false)
def ty_Tr : Nat → FieldType := fun k => match k with
  | 0 => .array .int
  | 1 => .array .int
  | 2 => .array .int
  | 3 => .array .int
  | 4 => .array .int
  | 5 => .array .int
  | _ => .int
theorem nm_Tr : ∀ a, a < 7 → ∀ b, b < 7 → a ≠ b → (T_Tr a).2.1 ≠ (T_Tr b).2.1 := by decide +kernel
theorem tyok_Tr : ∀ k, k < 7 → parseFieldDescriptor (T_Tr k).2.2.1 = some (ty_Tr k) := by decide +kernel
theorem in_Tr : ∀ w ∈ u_ws R_Tr T_Tr 7, w ∈ gw := by decide +kernel
def T_Wr : u_T := fun k => match k with
  | 0 => ("TermReader$Writer", "shown", "LTermReader$Bytes;", false)
  | _ => ("TermReader$Writer", "draft", "LTermReader$Bytes;", false)
def ty_Wr : Nat → FieldType := fun k => match k with
  | 0 => .object "TermReader$Bytes"
  | _ => .object "TermReader$Bytes"
theorem nm_Wr : ∀ a, a < 2 → ∀ b, b < 2 → a ≠ b → (T_Wr a).2.1 ≠ (T_Wr b).2.1 := by decide +kernel
theorem tyok_Wr : ∀ k, k < 2 → parseFieldDescriptor (T_Wr k).2.2.1 = some (ty_Wr k) := by decide +kernel
theorem in_Wr : ∀ w ∈ u_ws R_Wr T_Wr 2, w ∈ gw := by decide +kernel
def T_TR : u_T := fun k => match k with
  | 0 => ("TermReader", "fed", "LTermReader$Bytes;", true)
  | 1 => ("TermReader", "known", "LTermReader$Names;", true)
  | 2 => ("TermReader", "first", "LTermReader$Tree;", true)
  | 3 => ("TermReader", "second", "LTermReader$Tree;", true)
  | 4 => ("TermReader", "parser", "LTermReader$Parser;", true)
  | 5 => ("TermReader", "writer", "LTermReader$Writer;", true)
  | _ => ("TermReader", "lastFault", "I", false)
def ty_TR : Nat → FieldType := fun k => match k with
  | 0 => .object "TermReader$Bytes"
  | 1 => .object "TermReader$Names"
  | 2 => .object "TermReader$Tree"
  | 3 => .object "TermReader$Tree"
  | 4 => .object "TermReader$Parser"
  | 5 => .object "TermReader$Writer"
  | _ => .int
theorem nm_TR : ∀ a, a < 7 → ∀ b, b < 7 → a ≠ b → (T_TR a).2.1 ≠ (T_TR b).2.1 := by decide +kernel
theorem tyok_TR : ∀ k, k < 7 → parseFieldDescriptor (T_TR k).2.2.1 = some (ty_TR k) := by decide +kernel
theorem in_TR : ∀ w ∈ u_ws R_TR T_TR 7, w ∈ gw := by decide +kernel
def T_Mo : u_T := fun k => match k with
  | 0 => ("TermReaderModel", "words", "[Ljava/lang/String;", true)
  | 1 => ("TermReaderModel", "bytes", "[I", true)
  | 2 => ("TermReaderModel", "size", "I", false)
  | 3 => ("TermReaderModel", "end", "I", false)
  | 4 => ("TermReaderModel", "written", "[I", true)
  | 5 => ("TermReaderModel", "writtenSize", "I", false)
  | 6 => ("TermReaderModel", "out", "[I", true)
  | 7 => ("TermReaderModel", "outSize", "I", false)
  | 8 => ("TermReaderModel", "token", "[I", true)
  | 9 => ("TermReaderModel", "place", "[I", true)
  | 10 => ("TermReaderModel", "length", "[I", true)
  | 11 => ("TermReaderModel", "tokens", "I", false)
  | 12 => ("TermReaderModel", "at", "I", false)
  | 13 => ("TermReaderModel", "bad", "Z", false)
  | 14 => ("TermReaderModel", "fault", "I", false)
  | 15 => ("TermReaderModel", "kindOf", "[I", true)
  | 16 => ("TermReaderModel", "placeOf", "[I", true)
  | 17 => ("TermReaderModel", "valueOf", "[I", true)
  | 18 => ("TermReaderModel", "firstOf", "[I", true)
  | 19 => ("TermReaderModel", "lastOf", "[I", true)
  | 20 => ("TermReaderModel", "nextOf", "[I", true)
  | 21 => ("TermReaderModel", "drafts", "I", false)
  | 22 => ("TermReaderModel", "pile", "[I", true)
  | 23 => ("TermReaderModel", "kind", "[I", true)
  | 24 => ("TermReaderModel", "where", "[I", true)
  | 25 => ("TermReaderModel", "value", "[I", true)
  | 26 => ("TermReaderModel", "whole", "[I", true)
  | 27 => ("TermReaderModel", "sizes", "[I", true)
  | 28 => ("TermReaderModel", "count", "[I", true)
  | 29 => ("TermReaderModel", "letters", "[I", true)
  | 30 => ("TermReaderModel", "starts", "[I", true)
  | _ => ("TermReaderModel", "names", "I", false)
def ty_Mo : Nat → FieldType := fun k => match k with
  | 0 => .array (.object "java/lang/String")
  | 1 => .array .int
  | 2 => .int
  | 3 => .int
  | 4 => .array .int
  | 5 => .int
  | 6 => .array .int
  | 7 => .int
  | 8 => .array .int
  | 9 => .array .int
  | 10 => .array .int
  | 11 => .int
  | 12 => .int
  | 13 => .boolean
  | 14 => .int
  | 15 => .array .int
  | 16 => .array .int
  | 17 => .array .int
  | 18 => .array .int
  | 19 => .array .int
  | 20 => .array .int
  | 21 => .int
  | 22 => .array .int
  | 23 => .array .int
  | 24 => .array .int
  | 25 => .array .int
  | 26 => .array .int
  | 27 => .array .int
  | 28 => .array .int
  | 29 => .array .int
  | 30 => .array .int
  | _ => .int
theorem nm_Mo : ∀ a, a < 32 → ∀ b, b < 32 → a ≠ b → (T_Mo a).2.1 ≠ (T_Mo b).2.1 := by decide +kernel
theorem tyok_Mo : ∀ k, k < 32 → parseFieldDescriptor (T_Mo k).2.2.1 = some (ty_Mo k) := by decide +kernel
theorem in_Mo : ∀ w ∈ u_ws R_Mo T_Mo 32, w ∈ gw := by decide +kernel
abbrev vwCl : List vw_C := [(R_By, T_By, 3), (R_Gr, T_Gr, 7), (R_Na, T_Na, 5), (R_Pa, T_Pa, 8), (R_Tk, T_Tk, 5), (R_Tr, T_Tr, 7), (R_Wr, T_Wr, 2), (R_TR, T_TR, 7), (R_Mo, T_Mo, 32)]
abbrev b_TR_init : ByteArray := prog_1_method_1_code
def y_TR_init : MethodName := ⟨R_TR, "<init>", "()V"⟩
abbrev wd_TR_init : List Cond := .code y_TR_init b_TR_init 1 none :: gw
abbrev b_TR_again : ByteArray := prog_1_method_13_code
def y_TR_again : MethodName := ⟨R_TR, "again", "()I"⟩
abbrev wd_TR_again : List Cond := .code y_TR_again b_TR_again 1 (some .int) :: gw
abbrev b_TR_fault : ByteArray := prog_1_method_4_code
def y_TR_fault : MethodName := ⟨R_TR, "fault", "()I"⟩
abbrev wd_TR_fault : List Cond := .code y_TR_fault b_TR_fault 1 (some .int) :: gw
abbrev b_TR_feed : ByteArray := prog_1_method_2_code
def y_TR_feed : MethodName := ⟨R_TR, "feed", "(IIIII)I"⟩
abbrev wd_TR_feed : List Cond := .code y_TR_feed b_TR_feed 6 (some .int) :: gw
abbrev b_TR_names : ByteArray := prog_1_method_9_code
def y_TR_names : MethodName := ⟨R_TR, "names", "()I"⟩
abbrev wd_TR_names : List Cond := .code y_TR_names b_TR_names 1 (some .int) :: gw
abbrev b_TR_node : ByteArray := prog_1_method_6_code
def y_TR_node : MethodName := ⟨R_TR, "node", "(III)I"⟩
abbrev wd_TR_node : List Cond := .code y_TR_node b_TR_node 5 (some .int) :: gw
abbrev b_TR_nodes : ByteArray := prog_1_method_5_code
def y_TR_nodes : MethodName := ⟨R_TR, "nodes", "(I)I"⟩
abbrev wd_TR_nodes : List Cond := .code y_TR_nodes b_TR_nodes 3 (some .int) :: gw
abbrev b_TR_part : ByteArray := prog_1_method_7_code
def y_TR_part : MethodName := ⟨R_TR, "part", "(III)I"⟩
abbrev wd_TR_part : List Cond := .code y_TR_part b_TR_part 5 (some .int) :: gw
abbrev b_TR_read : ByteArray := prog_1_method_3_code
def y_TR_read : MethodName := ⟨R_TR, "read", "(II)I"⟩
abbrev wd_TR_read : List Cond := .code y_TR_read b_TR_read 4 (some .int) :: gw
abbrev b_TR_same : ByteArray := prog_1_method_14_code
def y_TR_same : MethodName := ⟨R_TR, "same", "()Z"⟩
abbrev wd_TR_same : List Cond := .code y_TR_same b_TR_same 1 (some .boolean) :: gw
abbrev b_TR_spelt : ByteArray := prog_1_method_10_code
def y_TR_spelt : MethodName := ⟨R_TR, "spelt", "(II)I"⟩
abbrev wd_TR_spelt : List Cond := .code y_TR_spelt b_TR_spelt 3 (some .int) :: gw
abbrev b_TR_treeOf : ByteArray := prog_1_method_15_code
def y_TR_treeOf : MethodName := ⟨R_TR, "treeOf", "(I)LTermReader$Tree;"⟩
abbrev wd_TR_treeOf : List Cond := .code y_TR_treeOf b_TR_treeOf 2 (some (.object "TermReader$Tree")) :: gw
abbrev b_TR_whole : ByteArray := prog_1_method_8_code
def y_TR_whole : MethodName := ⟨R_TR, "whole", "(II)I"⟩
abbrev wd_TR_whole : List Cond := .code y_TR_whole b_TR_whole 4 (some .int) :: gw
abbrev b_TR_write : ByteArray := prog_1_method_11_code
def y_TR_write : MethodName := ⟨R_TR, "write", "(II)I"⟩
abbrev wd_TR_write : List Cond := .code y_TR_write b_TR_write 4 (some .int) :: gw
abbrev b_TR_written : ByteArray := prog_1_method_12_code
def y_TR_written : MethodName := ⟨R_TR, "written", "(I)I"⟩
abbrev wd_TR_written : List Cond := .code y_TR_written b_TR_written 2 (some .int) :: gw
abbrev b_By_init : ByteArray := prog_2_method_1_code
def y_By_init : MethodName := ⟨R_By, "<init>", "()V"⟩
abbrev wd_By_init : List Cond := .code y_By_init b_By_init 1 none :: gw
abbrev b_By_at : ByteArray := prog_2_method_5_code
def y_By_at : MethodName := ⟨R_By, "at", "(I)I"⟩
abbrev wd_By_at : List Cond := .code y_By_at b_By_at 2 (some .int) :: gw
abbrev b_By_clear : ByteArray := prog_2_method_2_code
def y_By_clear : MethodName := ⟨R_By, "clear", "()V"⟩
abbrev wd_By_clear : List Cond := .code y_By_clear b_By_clear 1 none :: gw
abbrev b_By_copy : ByteArray := prog_2_method_6_code
def y_By_copy : MethodName := ⟨R_By, "copy", "(LTermReader$Bytes;)V"⟩
abbrev wd_By_copy : List Cond := .code y_By_copy b_By_copy 2 none :: gw
abbrev b_By_put : ByteArray := prog_2_method_3_code
def y_By_put : MethodName := ⟨R_By, "put", "(I)V"⟩
abbrev wd_By_put : List Cond := .code y_By_put b_By_put 2 none :: gw
abbrev b_By_putFour : ByteArray := prog_2_method_4_code
def y_By_putFour : MethodName := ⟨R_By, "putFour", "(I)V"⟩
abbrev wd_By_putFour : List Cond := .code y_By_putFour b_By_putFour 2 none :: gw
abbrev b_Gr_init : ByteArray := prog_3_method_1_code
def y_Gr_init : MethodName := ⟨R_Gr, "<init>", "()V"⟩
abbrev wd_Gr_init : List Cond := .code y_Gr_init b_Gr_init 1 none :: gw
abbrev b_Gr_add : ByteArray := prog_3_method_3_code
def y_Gr_add : MethodName := ⟨R_Gr, "add", "(IIII)Z"⟩
abbrev wd_Gr_add : List Cond := .code y_Gr_add b_Gr_add 7 (some .boolean) :: gw
abbrev b_Gr_cutTo : ByteArray := prog_3_method_2_code
def y_Gr_cutTo : MethodName := ⟨R_Gr, "cutTo", "(I)V"⟩
abbrev wd_Gr_cutTo : List Cond := .code y_Gr_cutTo b_Gr_cutTo 2 none :: gw
abbrev b_Gr_join : ByteArray := prog_3_method_4_code
def y_Gr_join : MethodName := ⟨R_Gr, "join", "(I)Z"⟩
abbrev wd_Gr_join : List Cond := .code y_Gr_join b_Gr_join 4 (some .boolean) :: gw
abbrev b_Gr_layOut : ByteArray := prog_3_method_5_code
def y_Gr_layOut : MethodName := ⟨R_Gr, "layOut", "(LTermReader$Tree;)V"⟩
abbrev wd_Gr_layOut : List Cond := .code y_Gr_layOut b_Gr_layOut 3 none :: gw
abbrev b_Gr_numberParts : ByteArray := prog_3_method_6_code
def y_Gr_numberParts : MethodName := ⟨R_Gr, "numberParts", "(ILTermReader$Tree;)V"⟩
abbrev wd_Gr_numberParts : List Cond := .code y_Gr_numberParts b_Gr_numberParts 6 none :: gw
abbrev b_Ki_isOpenToTheRight : ByteArray := prog_4_method_2_code
def y_Ki_isOpenToTheRight : MethodName := ⟨R_Ki, "isOpenToTheRight", "(I)Z"⟩
abbrev wd_Ki_isOpenToTheRight : List Cond := .code y_Ki_isOpenToTheRight b_Ki_isOpenToTheRight 1 (some .boolean) :: gw
abbrev b_Na_init : ByteArray := prog_5_method_1_code
def y_Na_init : MethodName := ⟨R_Na, "<init>", "()V"⟩
abbrev wd_Na_init : List Cond := .code y_Na_init b_Na_init 1 none :: gw
abbrev b_Na_addName : ByteArray := prog_5_method_7_code
def y_Na_addName : MethodName := ⟨R_Na, "addName", "(LTermReader$Bytes;III)I"⟩
abbrev wd_Na_addName : List Cond := .code y_Na_addName b_Na_addName 7 (some .int) :: gw
abbrev b_Na_bucketOf : ByteArray := prog_5_method_5_code
def y_Na_bucketOf : MethodName := ⟨R_Na, "bucketOf", "(LTermReader$Bytes;II)I"⟩
abbrev wd_Na_bucketOf : List Cond := .code y_Na_bucketOf b_Na_bucketOf 5 (some .int) :: gw
abbrev b_Na_byteOf : ByteArray := prog_5_method_3_code
def y_Na_byteOf : MethodName := ⟨R_Na, "byteOf", "(II)I"⟩
abbrev wd_Na_byteOf : List Cond := .code y_Na_byteOf b_Na_byteOf 3 (some .int) :: gw
abbrev b_Na_isSpelt : ByteArray := prog_5_method_6_code
def y_Na_isSpelt : MethodName := ⟨R_Na, "isSpelt", "(ILTermReader$Bytes;II)Z"⟩
abbrev wd_Na_isSpelt : List Cond := .code y_Na_isSpelt b_Na_isSpelt 6 (some .boolean) :: gw
abbrev b_Na_lengthOf : ByteArray := prog_5_method_2_code
def y_Na_lengthOf : MethodName := ⟨R_Na, "lengthOf", "(I)I"⟩
abbrev wd_Na_lengthOf : List Cond := .code y_Na_lengthOf b_Na_lengthOf 2 (some .int) :: gw
abbrev b_Na_numberOf : ByteArray := prog_5_method_4_code
def y_Na_numberOf : MethodName := ⟨R_Na, "numberOf", "(LTermReader$Bytes;II)I"⟩
abbrev wd_Na_numberOf : List Cond := .code y_Na_numberOf b_Na_numberOf 7 (some .int) :: gw
abbrev b_Pa_init : ByteArray := prog_6_method_1_code
def y_Pa_init : MethodName := ⟨R_Pa, "<init>", "()V"⟩
abbrev wd_Pa_init : List Cond := .code y_Pa_init b_Pa_init 1 none :: gw
abbrev b_Pa_await : ByteArray := prog_6_method_19_code
def y_Pa_await : MethodName := ⟨R_Pa, "await", "([I)Z"⟩
abbrev wd_Pa_await : List Cond := .code y_Pa_await b_Pa_await 3 (some .boolean) :: gw
abbrev b_Pa_begin : ByteArray := prog_6_method_17_code
def y_Pa_begin : MethodName := ⟨R_Pa, "begin", "([I)Z"⟩
abbrev wd_Pa_begin : List Cond := .code y_Pa_begin b_Pa_begin 2 (some .boolean) :: gw
abbrev b_Pa_expandAtom : ByteArray := prog_6_method_9_code
def y_Pa_expandAtom : MethodName := ⟨R_Pa, "expandAtom", "()Z"⟩
abbrev wd_Pa_expandAtom : List Cond := .code y_Pa_expandAtom b_Pa_expandAtom 1 (some .boolean) :: gw
abbrev b_Pa_expandBinders : ByteArray := prog_6_method_6_code
def y_Pa_expandBinders : MethodName := ⟨R_Pa, "expandBinders", "()Z"⟩
abbrev wd_Pa_expandBinders : List Cond := .code y_Pa_expandBinders b_Pa_expandBinders 1 (some .boolean) :: gw
abbrev b_Pa_expandBracketEnd : ByteArray := prog_6_method_11_code
def y_Pa_expandBracketEnd : MethodName := ⟨R_Pa, "expandBracketEnd", "()Z"⟩
abbrev wd_Pa_expandBracketEnd : List Cond := .code y_Pa_expandBracketEnd b_Pa_expandBracketEnd 1 (some .boolean) :: gw
abbrev b_Pa_expandDeclaration : ByteArray := prog_6_method_5_code
def y_Pa_expandDeclaration : MethodName := ⟨R_Pa, "expandDeclaration", "()Z"⟩
abbrev wd_Pa_expandDeclaration : List Cond := .code y_Pa_expandDeclaration b_Pa_expandDeclaration 1 (some .boolean) :: gw
abbrev b_Pa_expandMoreAtoms : ByteArray := prog_6_method_10_code
def y_Pa_expandMoreAtoms : MethodName := ⟨R_Pa, "expandMoreAtoms", "()Z"⟩
abbrev wd_Pa_expandMoreAtoms : List Cond := .code y_Pa_expandMoreAtoms b_Pa_expandMoreAtoms 2 (some .boolean) :: gw
abbrev b_Pa_expandTerm : ByteArray := prog_6_method_8_code
def y_Pa_expandTerm : MethodName := ⟨R_Pa, "expandTerm", "()Z"⟩
abbrev wd_Pa_expandTerm : List Cond := .code y_Pa_expandTerm b_Pa_expandTerm 1 (some .boolean) :: gw
abbrev b_Pa_expandTypeOrNothing : ByteArray := prog_6_method_7_code
def y_Pa_expandTypeOrNothing : MethodName := ⟨R_Pa, "expandTypeOrNothing", "()Z"⟩
abbrev wd_Pa_expandTypeOrNothing : List Cond := .code y_Pa_expandTypeOrNothing b_Pa_expandTypeOrNothing 1 (some .boolean) :: gw
abbrev b_Pa_finish : ByteArray := prog_6_method_18_code
def y_Pa_finish : MethodName := ⟨R_Pa, "finish", "(I)Z"⟩
abbrev wd_Pa_finish : List Cond := .code y_Pa_finish b_Pa_finish 2 (some .boolean) :: gw
abbrev b_Pa_goDeeper : ByteArray := prog_6_method_12_code
def y_Pa_goDeeper : MethodName := ⟨R_Pa, "goDeeper", "()Z"⟩
abbrev wd_Pa_goDeeper : List Cond := .code y_Pa_goDeeper b_Pa_goDeeper 1 (some .boolean) :: gw
abbrev b_Pa_isNot : ByteArray := prog_6_method_14_code
def y_Pa_isNot : MethodName := ⟨R_Pa, "isNot", "(I)Z"⟩
abbrev wd_Pa_isNot : List Cond := .code y_Pa_isNot b_Pa_isNot 2 (some .boolean) :: gw
abbrev b_Pa_parse : ByteArray := prog_6_method_2_code
def y_Pa_parse : MethodName := ⟨R_Pa, "parse", "(LTermReader$Bytes;I)I"⟩
abbrev wd_Pa_parse : List Cond := .code y_Pa_parse b_Pa_parse 6 (some .int) :: gw
abbrev b_Pa_rise : ByteArray := prog_6_method_13_code
def y_Pa_rise : MethodName := ⟨R_Pa, "rise", "()Z"⟩
abbrev wd_Pa_rise : List Cond := .code y_Pa_rise b_Pa_rise 1 (some .boolean) :: gw
abbrev b_Pa_take : ByteArray := prog_6_method_4_code
def y_Pa_take : MethodName := ⟨R_Pa, "take", "(I)Z"⟩
abbrev wd_Pa_take : List Cond := .code y_Pa_take b_Pa_take 2 (some .boolean) :: gw
abbrev b_Pa_takeDeclaration : ByteArray := prog_6_method_3_code
def y_Pa_takeDeclaration : MethodName := ⟨R_Pa, "takeDeclaration", "()Z"⟩
abbrev wd_Pa_takeDeclaration : List Cond := .code y_Pa_takeDeclaration b_Pa_takeDeclaration 3 (some .boolean) :: gw
abbrev b_Pa_takeLeaf : ByteArray := prog_6_method_16_code
def y_Pa_takeLeaf : MethodName := ⟨R_Pa, "takeLeaf", "(II)Z"⟩
abbrev wd_Pa_takeLeaf : List Cond := .code y_Pa_takeLeaf b_Pa_takeLeaf 3 (some .boolean) :: gw
abbrev b_Pa_takeToken : ByteArray := prog_6_method_15_code
def y_Pa_takeToken : MethodName := ⟨R_Pa, "takeToken", "(I)Z"⟩
abbrev wd_Pa_takeToken : List Cond := .code y_Pa_takeToken b_Pa_takeToken 2 (some .boolean) :: gw
abbrev b_To_beginsAtom : ByteArray := prog_8_method_4_code
def y_To_beginsAtom : MethodName := ⟨R_To, "beginsAtom", "(I)Z"⟩
abbrev wd_To_beginsAtom : List Cond := .code y_To_beginsAtom b_To_beginsAtom 1 (some .boolean) :: gw
abbrev b_To_signOf : ByteArray := prog_8_method_3_code
def y_To_signOf : MethodName := ⟨R_To, "signOf", "(II)I"⟩
abbrev wd_To_signOf : List Cond := .code y_To_signOf b_To_signOf 2 (some .int) :: gw
abbrev b_To_spelling : ByteArray := prog_8_method_2_code
def y_To_spelling : MethodName := ⟨R_To, "spelling", "(I)Ljava/lang/String;"⟩
abbrev wd_To_spelling : List Cond := .code y_To_spelling b_To_spelling 1 (some (.object "java/lang/String")) :: gw
abbrev b_Tk_init : ByteArray := prog_9_method_1_code
def y_Tk_init : MethodName := ⟨R_Tk, "<init>", "()V"⟩
abbrev wd_Tk_init : List Cond := .code y_Tk_init b_Tk_init 1 none :: gw
abbrev b_Tk_addToken : ByteArray := prog_9_method_13_code
def y_Tk_addToken : MethodName := ⟨R_Tk, "addToken", "(IIII)I"⟩
abbrev wd_Tk_addToken : List Cond := .code y_Tk_addToken b_Tk_addToken 5 (some .int) :: gw
abbrev b_Tk_advance : ByteArray := prog_9_method_5_code
def y_Tk_advance : MethodName := ⟨R_Tk, "advance", "()V"⟩
abbrev wd_Tk_advance : List Cond := .code y_Tk_advance b_Tk_advance 1 none :: gw
abbrev b_Tk_behindBlank : ByteArray := prog_9_method_8_code
def y_Tk_behindBlank : MethodName := ⟨R_Tk, "behindBlank", "(LTermReader$Bytes;II)I"⟩
abbrev wd_Tk_behindBlank : List Cond := .code y_Tk_behindBlank b_Tk_behindBlank 5 (some .int) :: gw
abbrev b_Tk_behindBlanks : ByteArray := prog_9_method_7_code
def y_Tk_behindBlanks : MethodName := ⟨R_Tk, "behindBlanks", "(LTermReader$Bytes;II)I"⟩
abbrev wd_Tk_behindBlanks : List Cond := .code y_Tk_behindBlanks b_Tk_behindBlanks 6 (some .int) :: gw
abbrev b_Tk_behindLine : ByteArray := prog_9_method_9_code
def y_Tk_behindLine : MethodName := ⟨R_Tk, "behindLine", "(LTermReader$Bytes;II)I"⟩
abbrev wd_Tk_behindLine : List Cond := .code y_Tk_behindLine b_Tk_behindLine 4 (some .int) :: gw
abbrev b_Tk_behindRemark : ByteArray := prog_9_method_10_code
def y_Tk_behindRemark : MethodName := ⟨R_Tk, "behindRemark", "(LTermReader$Bytes;II)I"⟩
abbrev wd_Tk_behindRemark : List Cond := .code y_Tk_behindRemark b_Tk_behindRemark 9 (some .int) :: gw
abbrev b_Tk_digitAt : ByteArray := prog_9_method_17_code
def y_Tk_digitAt : MethodName := ⟨R_Tk, "digitAt", "(LTermReader$Bytes;I)I"⟩
abbrev wd_Tk_digitAt : List Cond := .code y_Tk_digitAt b_Tk_digitAt 3 (some .int) :: gw
abbrev b_Tk_isDigit : ByteArray := prog_9_method_18_code
def y_Tk_isDigit : MethodName := ⟨R_Tk, "isDigit", "(I)Z"⟩
abbrev wd_Tk_isDigit : List Cond := .code y_Tk_isDigit b_Tk_isDigit 1 (some .boolean) :: gw
abbrev b_Tk_isInName : ByteArray := prog_9_method_20_code
def y_Tk_isInName : MethodName := ⟨R_Tk, "isInName", "(I)Z"⟩
abbrev wd_Tk_isInName : List Cond := .code y_Tk_isInName b_Tk_isInName 1 (some .boolean) :: gw
abbrev b_Tk_isLetter : ByteArray := prog_9_method_19_code
def y_Tk_isLetter : MethodName := ⟨R_Tk, "isLetter", "(I)Z"⟩
abbrev wd_Tk_isLetter : List Cond := .code y_Tk_isLetter b_Tk_isLetter 1 (some .boolean) :: gw
abbrev b_Tk_isWord : ByteArray := prog_9_method_16_code
def y_Tk_isWord : MethodName := ⟨R_Tk, "isWord", "(LTermReader$Bytes;IILjava/lang/String;)Z"⟩
abbrev wd_Tk_isWord : List Cond := .code y_Tk_isWord b_Tk_isWord 5 (some .boolean) :: gw
abbrev b_Tk_nextKind : ByteArray := prog_9_method_2_code
def y_Tk_nextKind : MethodName := ⟨R_Tk, "nextKind", "()I"⟩
abbrev wd_Tk_nextKind : List Cond := .code y_Tk_nextKind b_Tk_nextKind 1 (some .int) :: gw
abbrev b_Tk_nextPlace : ByteArray := prog_9_method_3_code
def y_Tk_nextPlace : MethodName := ⟨R_Tk, "nextPlace", "()I"⟩
abbrev wd_Tk_nextPlace : List Cond := .code y_Tk_nextPlace b_Tk_nextPlace 1 (some .int) :: gw
abbrev b_Tk_nextValue : ByteArray := prog_9_method_4_code
def y_Tk_nextValue : MethodName := ⟨R_Tk, "nextValue", "()I"⟩
abbrev wd_Tk_nextValue : List Cond := .code y_Tk_nextValue b_Tk_nextValue 1 (some .int) :: gw
abbrev b_Tk_scan : ByteArray := prog_9_method_6_code
def y_Tk_scan : MethodName := ⟨R_Tk, "scan", "(LTermReader$Bytes;I)V"⟩
abbrev wd_Tk_scan : List Cond := .code y_Tk_scan b_Tk_scan 7 none :: gw
abbrev b_Tk_scanSign : ByteArray := prog_9_method_11_code
def y_Tk_scanSign : MethodName := ⟨R_Tk, "scanSign", "(LTermReader$Bytes;II)I"⟩
abbrev wd_Tk_scanSign : List Cond := .code y_Tk_scanSign b_Tk_scanSign 5 (some .int) :: gw
abbrev b_Tk_scanWord : ByteArray := prog_9_method_12_code
def y_Tk_scanWord : MethodName := ⟨R_Tk, "scanWord", "(LTermReader$Bytes;II)I"⟩
abbrev wd_Tk_scanWord : List Cond := .code y_Tk_scanWord b_Tk_scanWord 7 (some .int) :: gw
abbrev b_Tk_sortAt : ByteArray := prog_9_method_15_code
def y_Tk_sortAt : MethodName := ⟨R_Tk, "sortAt", "(LTermReader$Bytes;II)I"⟩
abbrev wd_Tk_sortAt : List Cond := .code y_Tk_sortAt b_Tk_sortAt 5 (some .int) :: gw
abbrev b_Tk_wordAt : ByteArray := prog_9_method_14_code
def y_Tk_wordAt : MethodName := ⟨R_Tk, "wordAt", "(LTermReader$Bytes;II)I"⟩
abbrev wd_Tk_wordAt : List Cond := .code y_Tk_wordAt b_Tk_wordAt 4 (some .int) :: gw
abbrev b_Tr_init : ByteArray := prog_10_method_1_code
def y_Tr_init : MethodName := ⟨R_Tr, "<init>", "()V"⟩
abbrev wd_Tr_init : List Cond := .code y_Tr_init b_Tr_init 1 none :: gw
abbrev b_Tr_equalsButForPlaces : ByteArray := prog_10_method_14_code
def y_Tr_equalsButForPlaces : MethodName := ⟨R_Tr, "equalsButForPlaces", "(LTermReader$Tree;)Z"⟩
abbrev wd_Tr_equalsButForPlaces : List Cond := .code y_Tr_equalsButForPlaces b_Tr_equalsButForPlaces 3 (some .boolean) :: gw
abbrev b_Tr_has : ByteArray := prog_10_method_2_code
def y_Tr_has : MethodName := ⟨R_Tr, "has", "(I)Z"⟩
abbrev wd_Tr_has : List Cond := .code y_Tr_has b_Tr_has 2 (some .boolean) :: gw
abbrev b_Tr_isFirstPart : ByteArray := prog_10_method_11_code
def y_Tr_isFirstPart : MethodName := ⟨R_Tr, "isFirstPart", "(I)Z"⟩
abbrev wd_Tr_isFirstPart : List Cond := .code y_Tr_isFirstPart b_Tr_isFirstPart 2 (some .boolean) :: gw
abbrev b_Tr_isLastPart : ByteArray := prog_10_method_12_code
def y_Tr_isLastPart : MethodName := ⟨R_Tr, "isLastPart", "(I)Z"⟩
abbrev wd_Tr_isLastPart : List Cond := .code y_Tr_isLastPart b_Tr_isLastPart 3 (some .boolean) :: gw
abbrev b_Tr_kindOf : ByteArray := prog_10_method_6_code
def y_Tr_kindOf : MethodName := ⟨R_Tr, "kindOf", "(I)I"⟩
abbrev wd_Tr_kindOf : List Cond := .code y_Tr_kindOf b_Tr_kindOf 2 (some .int) :: gw
abbrev b_Tr_makeRoom : ByteArray := prog_10_method_3_code
def y_Tr_makeRoom : MethodName := ⟨R_Tr, "makeRoom", "(I)V"⟩
abbrev wd_Tr_makeRoom : List Cond := .code y_Tr_makeRoom b_Tr_makeRoom 2 none :: gw
abbrev b_Tr_numberNames : ByteArray := prog_10_method_13_code
def y_Tr_numberNames : MethodName := ⟨R_Tr, "numberNames", "(LTermReader$Names;LTermReader$Bytes;)V"⟩
abbrev wd_Tr_numberNames : List Cond := .code y_Tr_numberNames b_Tr_numberNames 4 none :: gw
abbrev b_Tr_partOf : ByteArray := prog_10_method_10_code
def y_Tr_partOf : MethodName := ⟨R_Tr, "partOf", "(II)I"⟩
abbrev wd_Tr_partOf : List Cond := .code y_Tr_partOf b_Tr_partOf 5 (some .int) :: gw
abbrev b_Tr_put : ByteArray := prog_10_method_4_code
def y_Tr_put : MethodName := ⟨R_Tr, "put", "(IIIIII)V"⟩
abbrev wd_Tr_put : List Cond := .code y_Tr_put b_Tr_put 7 none :: gw
abbrev b_Tr_putWhole : ByteArray := prog_10_method_5_code
def y_Tr_putWhole : MethodName := ⟨R_Tr, "putWhole", "(II)V"⟩
abbrev wd_Tr_putWhole : List Cond := .code y_Tr_putWhole b_Tr_putWhole 3 none :: gw
abbrev b_Tr_sizeOf : ByteArray := prog_10_method_7_code
def y_Tr_sizeOf : MethodName := ⟨R_Tr, "sizeOf", "(I)I"⟩
abbrev wd_Tr_sizeOf : List Cond := .code y_Tr_sizeOf b_Tr_sizeOf 2 (some .int) :: gw
abbrev b_Tr_tell : ByteArray := prog_10_method_9_code
def y_Tr_tell : MethodName := ⟨R_Tr, "tell", "(II)I"⟩
abbrev wd_Tr_tell : List Cond := .code y_Tr_tell b_Tr_tell 3 (some .int) :: gw
abbrev b_Tr_wholeOf : ByteArray := prog_10_method_8_code
def y_Tr_wholeOf : MethodName := ⟨R_Tr, "wholeOf", "(I)I"⟩
abbrev wd_Tr_wholeOf : List Cond := .code y_Tr_wholeOf b_Tr_wholeOf 2 (some .int) :: gw
abbrev b_Wr_init : ByteArray := prog_11_method_1_code
def y_Wr_init : MethodName := ⟨R_Wr, "<init>", "()V"⟩
abbrev wd_Wr_init : List Cond := .code y_Wr_init b_Wr_init 1 none :: gw
abbrev b_Wr_enter : ByteArray := prog_11_method_4_code
def y_Wr_enter : MethodName := ⟨R_Wr, "enter", "(LTermReader$Tree;LTermReader$Names;IZ)V"⟩
abbrev wd_Wr_enter : List Cond := .code y_Wr_enter b_Wr_enter 6 none :: gw
abbrev b_Wr_firstWord : ByteArray := prog_11_method_7_code
def y_Wr_firstWord : MethodName := ⟨R_Wr, "firstWord", "(I)I"⟩
abbrev wd_Wr_firstWord : List Cond := .code y_Wr_firstWord b_Wr_firstWord 1 (some .int) :: gw
abbrev b_Wr_hasBrackets : ByteArray := prog_11_method_10_code
def y_Wr_hasBrackets : MethodName := ⟨R_Wr, "hasBrackets", "(LTermReader$Tree;IZ)Z"⟩
abbrev wd_Wr_hasBrackets : List Cond := .code y_Wr_hasBrackets b_Wr_hasBrackets 7 (some .boolean) :: gw
abbrev b_Wr_isDeclaration : ByteArray := prog_11_method_6_code
def y_Wr_isDeclaration : MethodName := ⟨R_Wr, "isDeclaration", "(I)Z"⟩
abbrev wd_Wr_isDeclaration : List Cond := .code y_Wr_isDeclaration b_Wr_isDeclaration 1 (some .boolean) :: gw
abbrev b_Wr_leave : ByteArray := prog_11_method_5_code
def y_Wr_leave : MethodName := ⟨R_Wr, "leave", "(LTermReader$Tree;IZ)V"⟩
abbrev wd_Wr_leave : List Cond := .code y_Wr_leave b_Wr_leave 4 none :: gw
abbrev b_Wr_putBlank : ByteArray := prog_11_method_14_code
def y_Wr_putBlank : MethodName := ⟨R_Wr, "putBlank", "()V"⟩
abbrev wd_Wr_putBlank : List Cond := .code y_Wr_putBlank b_Wr_putBlank 2 none :: gw
abbrev b_Wr_putName : ByteArray := prog_11_method_12_code
def y_Wr_putName : MethodName := ⟨R_Wr, "putName", "(LTermReader$Names;I)V"⟩
abbrev wd_Wr_putName : List Cond := .code y_Wr_putName b_Wr_putName 5 none :: gw
abbrev b_Wr_putSort : ByteArray := prog_11_method_13_code
def y_Wr_putSort : MethodName := ⟨R_Wr, "putSort", "(I)V"⟩
abbrev wd_Wr_putSort : List Cond := .code y_Wr_putSort b_Wr_putSort 3 none :: gw
abbrev b_Wr_putText : ByteArray := prog_11_method_15_code
def y_Wr_putText : MethodName := ⟨R_Wr, "putText", "(Ljava/lang/String;)V"⟩
abbrev wd_Wr_putText : List Cond := .code y_Wr_putText b_Wr_putText 3 none :: gw
abbrev b_Wr_putToken : ByteArray := prog_11_method_11_code
def y_Wr_putToken : MethodName := ⟨R_Wr, "putToken", "(I)V"⟩
abbrev wd_Wr_putToken : List Cond := .code y_Wr_putToken b_Wr_putToken 2 none :: gw
abbrev b_Wr_show : ByteArray := prog_11_method_2_code
def y_Wr_show : MethodName := ⟨R_Wr, "show", "(LTermReader$Tree;LTermReader$Names;I)I"⟩
abbrev wd_Wr_show : List Cond := .code y_Wr_show b_Wr_show 5 (some .int) :: gw
abbrev b_Wr_tokenBefore : ByteArray := prog_11_method_8_code
def y_Wr_tokenBefore : MethodName := ⟨R_Wr, "tokenBefore", "(LTermReader$Tree;I)I"⟩
abbrev wd_Wr_tokenBefore : List Cond := .code y_Wr_tokenBefore b_Wr_tokenBefore 4 (some .int) :: gw
abbrev b_Wr_tokenInLet : ByteArray := prog_11_method_9_code
def y_Wr_tokenInLet : MethodName := ⟨R_Wr, "tokenInLet", "(LTermReader$Tree;I)I"⟩
abbrev wd_Wr_tokenInLet : List Cond := .code y_Wr_tokenInLet b_Wr_tokenInLet 2 (some .int) :: gw
abbrev b_Wr_walk : ByteArray := prog_11_method_3_code
def y_Wr_walk : MethodName := ⟨R_Wr, "walk", "(LTermReader$Tree;LTermReader$Names;I)V"⟩
abbrev wd_Wr_walk : List Cond := .code y_Wr_walk b_Wr_walk 8 none :: gw
abbrev b_Mo_init : ByteArray := prog_13_method_1_code
def y_Mo_init : MethodName := ⟨R_Mo, "<init>", "()V"⟩
abbrev wd_Mo_init : List Cond := .code y_Mo_init b_Mo_init 1 none :: gw
abbrev b_Mo_add : ByteArray := prog_13_method_3_code
def y_Mo_add : MethodName := ⟨R_Mo, "add", "(IIIII)I"⟩
abbrev wd_Mo_add : List Cond := .code y_Mo_add b_Mo_add 8 (some .int) :: gw
abbrev b_Mo_again : ByteArray := prog_13_method_53_code
def y_Mo_again : MethodName := ⟨R_Mo, "again", "()I"⟩
abbrev wd_Mo_again : List Cond := .code y_Mo_again b_Mo_again 2 (some .int) :: gw
abbrev b_Mo_atom : ByteArray := prog_13_method_21_code
def y_Mo_atom : MethodName := ⟨R_Mo, "atom", "(I)I"⟩
abbrev wd_Mo_atom : List Cond := .code y_Mo_atom b_Mo_atom 5 (some .int) :: gw
abbrev b_Mo_behindBlanks : ByteArray := prog_13_method_9_code
def y_Mo_behindBlanks : MethodName := ⟨R_Mo, "behindBlanks", "(I)I"⟩
abbrev wd_Mo_behindBlanks : List Cond := .code y_Mo_behindBlanks b_Mo_behindBlanks 6 (some .int) :: gw
abbrev b_Mo_bracket : ByteArray := prog_13_method_45_code
def y_Mo_bracket : MethodName := ⟨R_Mo, "bracket", "(IIZ)V"⟩
abbrev wd_Mo_bracket : List Cond := .code y_Mo_bracket b_Mo_bracket 4 none :: gw
abbrev b_Mo_clear : ByteArray := prog_13_method_2_code
def y_Mo_clear : MethodName := ⟨R_Mo, "clear", "(I)V"⟩
abbrev wd_Mo_clear : List Cond := .code y_Mo_clear b_Mo_clear 2 none :: gw
abbrev b_Mo_declaration : ByteArray := prog_13_method_26_code
def y_Mo_declaration : MethodName := ⟨R_Mo, "declaration", "()I"⟩
abbrev wd_Mo_declaration : List Cond := .code y_Mo_declaration b_Mo_declaration 4 (some .int) :: gw
abbrev b_Mo_draft : ByteArray := prog_13_method_16_code
def y_Mo_draft : MethodName := ⟨R_Mo, "draft", "(III)I"⟩
abbrev wd_Mo_draft : List Cond := .code y_Mo_draft b_Mo_draft 4 (some .int) :: gw
abbrev b_Mo_fault : ByteArray := prog_13_method_30_code
def y_Mo_fault : MethodName := ⟨R_Mo, "fault", "()I"⟩
abbrev wd_Mo_fault : List Cond := .code y_Mo_fault b_Mo_fault 1 (some .int) :: gw
abbrev b_Mo_feed : ByteArray := prog_13_method_4_code
def y_Mo_feed : MethodName := ⟨R_Mo, "feed", "(IIIII)I"⟩
abbrev wd_Mo_feed : List Cond := .code y_Mo_feed b_Mo_feed 8 (some .int) :: gw
abbrev b_Mo_groups : ByteArray := prog_13_method_23_code
def y_Mo_groups : MethodName := ⟨R_Mo, "groups", "(II)V"⟩
abbrev wd_Mo_groups : List Cond := .code y_Mo_groups b_Mo_groups 4 none :: gw
abbrev b_Mo_has : ByteArray := prog_13_method_31_code
def y_Mo_has : MethodName := ⟨R_Mo, "has", "(II)Z"⟩
abbrev wd_Mo_has : List Cond := .code y_Mo_has b_Mo_has 3 (some .boolean) :: gw
abbrev b_Mo_isAt : ByteArray := prog_13_method_5_code
def y_Mo_isAt : MethodName := ⟨R_Mo, "isAt", "(III)Z"⟩
abbrev wd_Mo_isAt : List Cond := .code y_Mo_isAt b_Mo_isAt 4 (some .boolean) :: gw
abbrev b_Mo_isAtom : ByteArray := prog_13_method_20_code
def y_Mo_isAtom : MethodName := ⟨R_Mo, "isAtom", "()Z"⟩
abbrev wd_Mo_isAtom : List Cond := .code y_Mo_isAtom b_Mo_isAtom 1 (some .boolean) :: gw
abbrev b_Mo_isDigit : ByteArray := prog_13_method_7_code
def y_Mo_isDigit : MethodName := ⟨R_Mo, "isDigit", "(I)Z"⟩
abbrev wd_Mo_isDigit : List Cond := .code y_Mo_isDigit b_Mo_isDigit 1 (some .boolean) :: gw
abbrev b_Mo_isLetter : ByteArray := prog_13_method_6_code
def y_Mo_isLetter : MethodName := ⟨R_Mo, "isLetter", "(I)Z"⟩
abbrev wd_Mo_isLetter : List Cond := .code y_Mo_isLetter b_Mo_isLetter 1 (some .boolean) :: gw
abbrev b_Mo_isOpen : ByteArray := prog_13_method_43_code
def y_Mo_isOpen : MethodName := ⟨R_Mo, "isOpen", "(I)Z"⟩
abbrev wd_Mo_isOpen : List Cond := .code y_Mo_isOpen b_Mo_isOpen 1 (some .boolean) :: gw
abbrev b_Mo_join : ByteArray := prog_13_method_17_code
def y_Mo_join : MethodName := ⟨R_Mo, "join", "(II)V"⟩
abbrev wd_Mo_join : List Cond := .code y_Mo_join b_Mo_join 3 none :: gw
abbrev b_Mo_keep : ByteArray := prog_13_method_28_code
def y_Mo_keep : MethodName := ⟨R_Mo, "keep", "(II)V"⟩
abbrev wd_Mo_keep : List Cond := .code y_Mo_keep b_Mo_keep 8 none :: gw
abbrev b_Mo_kindAt : ByteArray := prog_13_method_44_code
def y_Mo_kindAt : MethodName := ⟨R_Mo, "kindAt", "(II)I"⟩
abbrev wd_Mo_kindAt : List Cond := .code y_Mo_kindAt b_Mo_kindAt 3 (some .int) :: gw
abbrev b_Mo_look : ByteArray := prog_13_method_13_code
def y_Mo_look : MethodName := ⟨R_Mo, "look", "()I"⟩
abbrev wd_Mo_look : List Cond := .code y_Mo_look b_Mo_look 1 (some .int) :: gw
abbrev b_Mo_members : ByteArray := prog_13_method_22_code
def y_Mo_members : MethodName := ⟨R_Mo, "members", "(II)V"⟩
abbrev wd_Mo_members : List Cond := .code y_Mo_members b_Mo_members 3 none :: gw
abbrev b_Mo_name : ByteArray := prog_13_method_18_code
def y_Mo_name : MethodName := ⟨R_Mo, "name", "(I)I"⟩
abbrev wd_Mo_name : List Cond := .code y_Mo_name b_Mo_name 3 (some .int) :: gw
abbrev b_Mo_names : ByteArray := prog_13_method_37_code
def y_Mo_names : MethodName := ⟨R_Mo, "names", "()I"⟩
abbrev wd_Mo_names : List Cond := .code y_Mo_names b_Mo_names 1 (some .int) :: gw
abbrev b_Mo_need : ByteArray := prog_13_method_14_code
def y_Mo_need : MethodName := ⟨R_Mo, "need", "(Z)V"⟩
abbrev wd_Mo_need : List Cond := .code y_Mo_need b_Mo_need 2 none :: gw
abbrev b_Mo_node : ByteArray := prog_13_method_35_code
def y_Mo_node : MethodName := ⟨R_Mo, "node", "(III)I"⟩
abbrev wd_Mo_node : List Cond := .code y_Mo_node b_Mo_node 5 (some .int) :: gw
abbrev b_Mo_nodes : ByteArray := prog_13_method_32_code
def y_Mo_nodes : MethodName := ⟨R_Mo, "nodes", "(I)I"⟩
abbrev wd_Mo_nodes : List Cond := .code y_Mo_nodes b_Mo_nodes 2 (some .int) :: gw
abbrev b_Mo_number : ByteArray := prog_13_method_27_code
def y_Mo_number : MethodName := ⟨R_Mo, "number", "(I)I"⟩
abbrev wd_Mo_number : List Cond := .code y_Mo_number b_Mo_number 5 (some .int) :: gw
abbrev b_Mo_part : ByteArray := prog_13_method_34_code
def y_Mo_part : MethodName := ⟨R_Mo, "part", "(III)I"⟩
abbrev wd_Mo_part : List Cond := .code y_Mo_part b_Mo_part 6 (some .int) :: gw
abbrev b_Mo_parts : ByteArray := prog_13_method_33_code
def y_Mo_parts : MethodName := ⟨R_Mo, "parts", "(II)I"⟩
abbrev wd_Mo_parts : List Cond := .code y_Mo_parts b_Mo_parts 4 (some .int) :: gw
abbrev b_Mo_put : ByteArray := prog_13_method_41_code
def y_Mo_put : MethodName := ⟨R_Mo, "put", "(I)V"⟩
abbrev wd_Mo_put : List Cond := .code y_Mo_put b_Mo_put 2 none :: gw
abbrev b_Mo_read : ByteArray := prog_13_method_29_code
def y_Mo_read : MethodName := ⟨R_Mo, "read", "(II)I"⟩
abbrev wd_Mo_read : List Cond := .code y_Mo_read b_Mo_read 5 (some .int) :: gw
abbrev b_Mo_same : ByteArray := prog_13_method_39_code
def y_Mo_same : MethodName := ⟨R_Mo, "same", "()Z"⟩
abbrev wd_Mo_same : List Cond := .code y_Mo_same b_Mo_same 3 (some .boolean) :: gw
abbrev b_Mo_sayApplied : ByteArray := prog_13_method_49_code
def y_Mo_sayApplied : MethodName := ⟨R_Mo, "sayApplied", "(II)V"⟩
abbrev wd_Mo_sayApplied : List Cond := .code y_Mo_sayApplied b_Mo_sayApplied 7 none :: gw
abbrev b_Mo_sayDeclaration : ByteArray := prog_13_method_48_code
def y_Mo_sayDeclaration : MethodName := ⟨R_Mo, "sayDeclaration", "(II)V"⟩
abbrev wd_Mo_sayDeclaration : List Cond := .code y_Mo_sayDeclaration b_Mo_sayDeclaration 7 none :: gw
abbrev b_Mo_sayGroup : ByteArray := prog_13_method_46_code
def y_Mo_sayGroup : MethodName := ⟨R_Mo, "sayGroup", "(II)V"⟩
abbrev wd_Mo_sayGroup : List Cond := .code y_Mo_sayGroup b_Mo_sayGroup 4 none :: gw
abbrev b_Mo_sayName : ByteArray := prog_13_method_42_code
def y_Mo_sayName : MethodName := ⟨R_Mo, "sayName", "(I)V"⟩
abbrev wd_Mo_sayName : List Cond := .code y_Mo_sayName b_Mo_sayName 3 none :: gw
abbrev b_Mo_sayTold : ByteArray := prog_13_method_47_code
def y_Mo_sayTold : MethodName := ⟨R_Mo, "sayTold", "(II)V"⟩
abbrev wd_Mo_sayTold : List Cond := .code y_Mo_sayTold b_Mo_sayTold 3 none :: gw
abbrev b_Mo_scan : ByteArray := prog_13_method_12_code
def y_Mo_scan : MethodName := ⟨R_Mo, "scan", "()V"⟩
abbrev wd_Mo_scan : List Cond := .code y_Mo_scan b_Mo_scan 5 none :: gw
abbrev b_Mo_show : ByteArray := prog_13_method_50_code
def y_Mo_show : MethodName := ⟨R_Mo, "show", "(II)V"⟩
abbrev wd_Mo_show : List Cond := .code y_Mo_show b_Mo_show 8 none :: gw
abbrev b_Mo_sort : ByteArray := prog_13_method_19_code
def y_Mo_sort : MethodName := ⟨R_Mo, "sort", "()I"⟩
abbrev wd_Mo_sort : List Cond := .code y_Mo_sort b_Mo_sort 3 (some .int) :: gw
abbrev b_Mo_spells : ByteArray := prog_13_method_10_code
def y_Mo_spells : MethodName := ⟨R_Mo, "spells", "(IILjava/lang/String;)Z"⟩
abbrev wd_Mo_spells : List Cond := .code y_Mo_spells b_Mo_spells 5 (some .boolean) :: gw
abbrev b_Mo_spelt : ByteArray := prog_13_method_38_code
def y_Mo_spelt : MethodName := ⟨R_Mo, "spelt", "(II)I"⟩
abbrev wd_Mo_spelt : List Cond := .code y_Mo_spelt b_Mo_spelt 3 (some .int) :: gw
abbrev b_Mo_take : ByteArray := prog_13_method_15_code
def y_Mo_take : MethodName := ⟨R_Mo, "take", "(I)V"⟩
abbrev wd_Mo_take : List Cond := .code y_Mo_take b_Mo_take 2 none :: gw
abbrev b_Mo_term : ByteArray := prog_13_method_25_code
def y_Mo_term : MethodName := ⟨R_Mo, "term", "(I)I"⟩
abbrev wd_Mo_term : List Cond := .code y_Mo_term b_Mo_term 8 (some .int) :: gw
abbrev b_Mo_text : ByteArray := prog_13_method_40_code
def y_Mo_text : MethodName := ⟨R_Mo, "text", "(Ljava/lang/String;)V"⟩
abbrev wd_Mo_text : List Cond := .code y_Mo_text b_Mo_text 3 none :: gw
abbrev b_Mo_token : ByteArray := prog_13_method_8_code
def y_Mo_token : MethodName := ⟨R_Mo, "token", "(III)V"⟩
abbrev wd_Mo_token : List Cond := .code y_Mo_token b_Mo_token 4 none :: gw
abbrev b_Mo_told : ByteArray := prog_13_method_24_code
def y_Mo_told : MethodName := ⟨R_Mo, "told", "(I)I"⟩
abbrev wd_Mo_told : List Cond := .code y_Mo_told b_Mo_told 2 (some .int) :: gw
abbrev b_Mo_whole : ByteArray := prog_13_method_36_code
def y_Mo_whole : MethodName := ⟨R_Mo, "whole", "(II)I"⟩
abbrev wd_Mo_whole : List Cond := .code y_Mo_whole b_Mo_whole 3 (some .int) :: gw
abbrev b_Mo_wordOf : ByteArray := prog_13_method_11_code
def y_Mo_wordOf : MethodName := ⟨R_Mo, "wordOf", "(II)I"⟩
abbrev wd_Mo_wordOf : List Cond := .code y_Mo_wordOf b_Mo_wordOf 6 (some .int) :: gw
abbrev b_Mo_write : ByteArray := prog_13_method_51_code
def y_Mo_write : MethodName := ⟨R_Mo, "write", "(II)I"⟩
abbrev wd_Mo_write : List Cond := .code y_Mo_write b_Mo_write 4 (some .int) :: gw
abbrev b_Mo_written : ByteArray := prog_13_method_52_code
def y_Mo_written : MethodName := ⟨R_Mo, "written", "(I)I"⟩
abbrev wd_Mo_written : List Cond := .code y_Mo_written b_Mo_written 2 (some .int) :: gw
abbrev b_Jm_max : ByteArray := prog_14_method_65_code
def y_Jm_max : MethodName := ⟨R_Jm, "max", "(II)I"⟩
abbrev wd_Jm_max : List Cond := .code y_Jm_max b_Jm_max 2 (some .int) :: gw
abbrev b_Jm_min : ByteArray := prog_14_method_69_code
def y_Jm_min : MethodName := ⟨R_Jm, "min", "(II)I"⟩
abbrev wd_Jm_min : List Cond := .code y_Jm_min b_Jm_min 2 (some .int) :: gw
abbrev b_Js_charAt : ByteArray := prog_15_method_56_code
def y_Js_charAt : MethodName := ⟨R_Js, "charAt", "(I)C"⟩
abbrev wd_Js_charAt : List Cond := .code y_Js_charAt b_Js_charAt 2 (some .char) :: gw
abbrev b_Js_checkIndex : ByteArray := prog_15_method_155_code
def y_Js_checkIndex : MethodName := ⟨R_Js, "checkIndex", "(II)V"⟩
abbrev wd_Js_checkIndex : List Cond := .code y_Js_checkIndex b_Js_checkIndex 2 none :: gw
abbrev b_Js_coder : ByteArray := prog_15_method_152_code
def y_Js_coder : MethodName := ⟨R_Js, "coder", "()B"⟩
abbrev wd_Js_coder : List Cond := .code y_Js_coder b_Js_coder 1 (some .byte) :: gw
abbrev b_Js_isLatin1 : ByteArray := prog_15_method_154_code
def y_Js_isLatin1 : MethodName := ⟨R_Js, "isLatin1", "()Z"⟩
abbrev wd_Js_isLatin1 : List Cond := .code y_Js_isLatin1 b_Js_isLatin1 1 (some .boolean) :: gw
abbrev b_Js_length : ByteArray := prog_15_method_54_code
def y_Js_length : MethodName := ⟨R_Js, "length", "()I"⟩
abbrev wd_Js_length : List Cond := .code y_Js_length b_Js_length 1 (some .int) :: gw
abbrev b_Jl_charAt : ByteArray := prog_16_method_2_code
def y_Jl_charAt : MethodName := ⟨R_Jl, "charAt", "([BI)C"⟩
abbrev wd_Jl_charAt : List Cond := .code y_Jl_charAt b_Jl_charAt 2 (some .char) :: gw
abbrev b_Jp_checkIndex : ByteArray := prog_19_method_11_code
def y_Jp_checkIndex : MethodName := ⟨R_Jp, "checkIndex", "(IILjava/util/function/BiFunction;)I"⟩
abbrev wd_Jp_checkIndex : List Cond := .code y_Jp_checkIndex b_Jp_checkIndex 3 (some .int) :: gw
theorem dd_TR_init : y_TR_init.cls = R_TR ∧ y_TR_init.cls ≠ "java/lang/invoke/MethodHandle" ∧ y_TR_init.cls ≠ "java/lang/invoke/VarHandle" ∧ (parseMethodDescriptor y_TR_init.desc).map (fun d => d.parameters.length) = some 0 := by decide +kernel
theorem dd_TR_again : y_TR_again.cls = R_TR ∧ y_TR_again.cls ≠ "java/lang/invoke/MethodHandle" ∧ y_TR_again.cls ≠ "java/lang/invoke/VarHandle" ∧ (parseMethodDescriptor y_TR_again.desc).map (fun d => d.parameters.length) = some 0 := by decide +kernel
theorem dd_TR_fault : y_TR_fault.cls = R_TR ∧ y_TR_fault.cls ≠ "java/lang/invoke/MethodHandle" ∧ y_TR_fault.cls ≠ "java/lang/invoke/VarHandle" ∧ (parseMethodDescriptor y_TR_fault.desc).map (fun d => d.parameters.length) = some 0 := by decide +kernel
theorem dd_TR_feed : y_TR_feed.cls = R_TR ∧ y_TR_feed.cls ≠ "java/lang/invoke/MethodHandle" ∧ y_TR_feed.cls ≠ "java/lang/invoke/VarHandle" ∧ (parseMethodDescriptor y_TR_feed.desc).map (fun d => d.parameters.length) = some 5 := by decide +kernel
theorem dd_TR_names : y_TR_names.cls = R_TR ∧ y_TR_names.cls ≠ "java/lang/invoke/MethodHandle" ∧ y_TR_names.cls ≠ "java/lang/invoke/VarHandle" ∧ (parseMethodDescriptor y_TR_names.desc).map (fun d => d.parameters.length) = some 0 := by decide +kernel
theorem dd_TR_node : y_TR_node.cls = R_TR ∧ y_TR_node.cls ≠ "java/lang/invoke/MethodHandle" ∧ y_TR_node.cls ≠ "java/lang/invoke/VarHandle" ∧ (parseMethodDescriptor y_TR_node.desc).map (fun d => d.parameters.length) = some 3 := by decide +kernel
theorem dd_TR_nodes : y_TR_nodes.cls = R_TR ∧ y_TR_nodes.cls ≠ "java/lang/invoke/MethodHandle" ∧ y_TR_nodes.cls ≠ "java/lang/invoke/VarHandle" ∧ (parseMethodDescriptor y_TR_nodes.desc).map (fun d => d.parameters.length) = some 1 := by decide +kernel
theorem dd_TR_part : y_TR_part.cls = R_TR ∧ y_TR_part.cls ≠ "java/lang/invoke/MethodHandle" ∧ y_TR_part.cls ≠ "java/lang/invoke/VarHandle" ∧ (parseMethodDescriptor y_TR_part.desc).map (fun d => d.parameters.length) = some 3 := by decide +kernel
theorem dd_TR_read : y_TR_read.cls = R_TR ∧ y_TR_read.cls ≠ "java/lang/invoke/MethodHandle" ∧ y_TR_read.cls ≠ "java/lang/invoke/VarHandle" ∧ (parseMethodDescriptor y_TR_read.desc).map (fun d => d.parameters.length) = some 2 := by decide +kernel
theorem dd_TR_same : y_TR_same.cls = R_TR ∧ y_TR_same.cls ≠ "java/lang/invoke/MethodHandle" ∧ y_TR_same.cls ≠ "java/lang/invoke/VarHandle" ∧ (parseMethodDescriptor y_TR_same.desc).map (fun d => d.parameters.length) = some 0 := by decide +kernel
theorem dd_TR_spelt : y_TR_spelt.cls = R_TR ∧ y_TR_spelt.cls ≠ "java/lang/invoke/MethodHandle" ∧ y_TR_spelt.cls ≠ "java/lang/invoke/VarHandle" ∧ (parseMethodDescriptor y_TR_spelt.desc).map (fun d => d.parameters.length) = some 2 := by decide +kernel
theorem dd_TR_treeOf : y_TR_treeOf.cls = R_TR ∧ y_TR_treeOf.cls ≠ "java/lang/invoke/MethodHandle" ∧ y_TR_treeOf.cls ≠ "java/lang/invoke/VarHandle" ∧ (parseMethodDescriptor y_TR_treeOf.desc).map (fun d => d.parameters.length) = some 1 := by decide +kernel
theorem dd_TR_whole : y_TR_whole.cls = R_TR ∧ y_TR_whole.cls ≠ "java/lang/invoke/MethodHandle" ∧ y_TR_whole.cls ≠ "java/lang/invoke/VarHandle" ∧ (parseMethodDescriptor y_TR_whole.desc).map (fun d => d.parameters.length) = some 2 := by decide +kernel
theorem dd_TR_write : y_TR_write.cls = R_TR ∧ y_TR_write.cls ≠ "java/lang/invoke/MethodHandle" ∧ y_TR_write.cls ≠ "java/lang/invoke/VarHandle" ∧ (parseMethodDescriptor y_TR_write.desc).map (fun d => d.parameters.length) = some 2 := by decide +kernel
theorem dd_TR_written : y_TR_written.cls = R_TR ∧ y_TR_written.cls ≠ "java/lang/invoke/MethodHandle" ∧ y_TR_written.cls ≠ "java/lang/invoke/VarHandle" ∧ (parseMethodDescriptor y_TR_written.desc).map (fun d => d.parameters.length) = some 1 := by decide +kernel
theorem dd_By_init : y_By_init.cls = R_By ∧ y_By_init.cls ≠ "java/lang/invoke/MethodHandle" ∧ y_By_init.cls ≠ "java/lang/invoke/VarHandle" ∧ (parseMethodDescriptor y_By_init.desc).map (fun d => d.parameters.length) = some 0 := by decide +kernel
theorem dd_By_at : y_By_at.cls = R_By ∧ y_By_at.cls ≠ "java/lang/invoke/MethodHandle" ∧ y_By_at.cls ≠ "java/lang/invoke/VarHandle" ∧ (parseMethodDescriptor y_By_at.desc).map (fun d => d.parameters.length) = some 1 := by decide +kernel
theorem dd_By_clear : y_By_clear.cls = R_By ∧ y_By_clear.cls ≠ "java/lang/invoke/MethodHandle" ∧ y_By_clear.cls ≠ "java/lang/invoke/VarHandle" ∧ (parseMethodDescriptor y_By_clear.desc).map (fun d => d.parameters.length) = some 0 := by decide +kernel
theorem dd_By_copy : y_By_copy.cls = R_By ∧ y_By_copy.cls ≠ "java/lang/invoke/MethodHandle" ∧ y_By_copy.cls ≠ "java/lang/invoke/VarHandle" ∧ (parseMethodDescriptor y_By_copy.desc).map (fun d => d.parameters.length) = some 1 := by decide +kernel
theorem dd_By_put : y_By_put.cls = R_By ∧ y_By_put.cls ≠ "java/lang/invoke/MethodHandle" ∧ y_By_put.cls ≠ "java/lang/invoke/VarHandle" ∧ (parseMethodDescriptor y_By_put.desc).map (fun d => d.parameters.length) = some 1 := by decide +kernel
theorem dd_By_putFour : y_By_putFour.cls = R_By ∧ y_By_putFour.cls ≠ "java/lang/invoke/MethodHandle" ∧ y_By_putFour.cls ≠ "java/lang/invoke/VarHandle" ∧ (parseMethodDescriptor y_By_putFour.desc).map (fun d => d.parameters.length) = some 1 := by decide +kernel
theorem dd_Gr_init : y_Gr_init.cls = R_Gr ∧ y_Gr_init.cls ≠ "java/lang/invoke/MethodHandle" ∧ y_Gr_init.cls ≠ "java/lang/invoke/VarHandle" ∧ (parseMethodDescriptor y_Gr_init.desc).map (fun d => d.parameters.length) = some 0 := by decide +kernel
theorem dd_Gr_add : y_Gr_add.cls = R_Gr ∧ y_Gr_add.cls ≠ "java/lang/invoke/MethodHandle" ∧ y_Gr_add.cls ≠ "java/lang/invoke/VarHandle" ∧ (parseMethodDescriptor y_Gr_add.desc).map (fun d => d.parameters.length) = some 4 := by decide +kernel
theorem dd_Gr_cutTo : y_Gr_cutTo.cls = R_Gr ∧ y_Gr_cutTo.cls ≠ "java/lang/invoke/MethodHandle" ∧ y_Gr_cutTo.cls ≠ "java/lang/invoke/VarHandle" ∧ (parseMethodDescriptor y_Gr_cutTo.desc).map (fun d => d.parameters.length) = some 1 := by decide +kernel
theorem dd_Gr_join : y_Gr_join.cls = R_Gr ∧ y_Gr_join.cls ≠ "java/lang/invoke/MethodHandle" ∧ y_Gr_join.cls ≠ "java/lang/invoke/VarHandle" ∧ (parseMethodDescriptor y_Gr_join.desc).map (fun d => d.parameters.length) = some 1 := by decide +kernel
theorem dd_Gr_layOut : y_Gr_layOut.cls = R_Gr ∧ y_Gr_layOut.cls ≠ "java/lang/invoke/MethodHandle" ∧ y_Gr_layOut.cls ≠ "java/lang/invoke/VarHandle" ∧ (parseMethodDescriptor y_Gr_layOut.desc).map (fun d => d.parameters.length) = some 1 := by decide +kernel
theorem dd_Gr_numberParts : y_Gr_numberParts.cls = R_Gr ∧ y_Gr_numberParts.cls ≠ "java/lang/invoke/MethodHandle" ∧ y_Gr_numberParts.cls ≠ "java/lang/invoke/VarHandle" ∧ (parseMethodDescriptor y_Gr_numberParts.desc).map (fun d => d.parameters.length) = some 2 := by decide +kernel
theorem dd_Ki_isOpenToTheRight : y_Ki_isOpenToTheRight.cls = R_Ki ∧ y_Ki_isOpenToTheRight.cls ≠ "java/lang/invoke/MethodHandle" ∧ y_Ki_isOpenToTheRight.cls ≠ "java/lang/invoke/VarHandle" ∧ (parseMethodDescriptor y_Ki_isOpenToTheRight.desc).map (fun d => d.parameters.length) = some 1 := by decide +kernel
theorem dd_Na_init : y_Na_init.cls = R_Na ∧ y_Na_init.cls ≠ "java/lang/invoke/MethodHandle" ∧ y_Na_init.cls ≠ "java/lang/invoke/VarHandle" ∧ (parseMethodDescriptor y_Na_init.desc).map (fun d => d.parameters.length) = some 0 := by decide +kernel
theorem dd_Na_addName : y_Na_addName.cls = R_Na ∧ y_Na_addName.cls ≠ "java/lang/invoke/MethodHandle" ∧ y_Na_addName.cls ≠ "java/lang/invoke/VarHandle" ∧ (parseMethodDescriptor y_Na_addName.desc).map (fun d => d.parameters.length) = some 4 := by decide +kernel
theorem dd_Na_bucketOf : y_Na_bucketOf.cls = R_Na ∧ y_Na_bucketOf.cls ≠ "java/lang/invoke/MethodHandle" ∧ y_Na_bucketOf.cls ≠ "java/lang/invoke/VarHandle" ∧ (parseMethodDescriptor y_Na_bucketOf.desc).map (fun d => d.parameters.length) = some 3 := by decide +kernel
theorem dd_Na_byteOf : y_Na_byteOf.cls = R_Na ∧ y_Na_byteOf.cls ≠ "java/lang/invoke/MethodHandle" ∧ y_Na_byteOf.cls ≠ "java/lang/invoke/VarHandle" ∧ (parseMethodDescriptor y_Na_byteOf.desc).map (fun d => d.parameters.length) = some 2 := by decide +kernel
theorem dd_Na_isSpelt : y_Na_isSpelt.cls = R_Na ∧ y_Na_isSpelt.cls ≠ "java/lang/invoke/MethodHandle" ∧ y_Na_isSpelt.cls ≠ "java/lang/invoke/VarHandle" ∧ (parseMethodDescriptor y_Na_isSpelt.desc).map (fun d => d.parameters.length) = some 4 := by decide +kernel
theorem dd_Na_lengthOf : y_Na_lengthOf.cls = R_Na ∧ y_Na_lengthOf.cls ≠ "java/lang/invoke/MethodHandle" ∧ y_Na_lengthOf.cls ≠ "java/lang/invoke/VarHandle" ∧ (parseMethodDescriptor y_Na_lengthOf.desc).map (fun d => d.parameters.length) = some 1 := by decide +kernel
theorem dd_Na_numberOf : y_Na_numberOf.cls = R_Na ∧ y_Na_numberOf.cls ≠ "java/lang/invoke/MethodHandle" ∧ y_Na_numberOf.cls ≠ "java/lang/invoke/VarHandle" ∧ (parseMethodDescriptor y_Na_numberOf.desc).map (fun d => d.parameters.length) = some 3 := by decide +kernel
theorem dd_Pa_init : y_Pa_init.cls = R_Pa ∧ y_Pa_init.cls ≠ "java/lang/invoke/MethodHandle" ∧ y_Pa_init.cls ≠ "java/lang/invoke/VarHandle" ∧ (parseMethodDescriptor y_Pa_init.desc).map (fun d => d.parameters.length) = some 0 := by decide +kernel
theorem dd_Pa_await : y_Pa_await.cls = R_Pa ∧ y_Pa_await.cls ≠ "java/lang/invoke/MethodHandle" ∧ y_Pa_await.cls ≠ "java/lang/invoke/VarHandle" ∧ (parseMethodDescriptor y_Pa_await.desc).map (fun d => d.parameters.length) = some 1 := by decide +kernel
theorem dd_Pa_begin : y_Pa_begin.cls = R_Pa ∧ y_Pa_begin.cls ≠ "java/lang/invoke/MethodHandle" ∧ y_Pa_begin.cls ≠ "java/lang/invoke/VarHandle" ∧ (parseMethodDescriptor y_Pa_begin.desc).map (fun d => d.parameters.length) = some 1 := by decide +kernel
theorem dd_Pa_expandAtom : y_Pa_expandAtom.cls = R_Pa ∧ y_Pa_expandAtom.cls ≠ "java/lang/invoke/MethodHandle" ∧ y_Pa_expandAtom.cls ≠ "java/lang/invoke/VarHandle" ∧ (parseMethodDescriptor y_Pa_expandAtom.desc).map (fun d => d.parameters.length) = some 0 := by decide +kernel
theorem dd_Pa_expandBinders : y_Pa_expandBinders.cls = R_Pa ∧ y_Pa_expandBinders.cls ≠ "java/lang/invoke/MethodHandle" ∧ y_Pa_expandBinders.cls ≠ "java/lang/invoke/VarHandle" ∧ (parseMethodDescriptor y_Pa_expandBinders.desc).map (fun d => d.parameters.length) = some 0 := by decide +kernel
theorem dd_Pa_expandBracketEnd : y_Pa_expandBracketEnd.cls = R_Pa ∧ y_Pa_expandBracketEnd.cls ≠ "java/lang/invoke/MethodHandle" ∧ y_Pa_expandBracketEnd.cls ≠ "java/lang/invoke/VarHandle" ∧ (parseMethodDescriptor y_Pa_expandBracketEnd.desc).map (fun d => d.parameters.length) = some 0 := by decide +kernel
theorem dd_Pa_expandDeclaration : y_Pa_expandDeclaration.cls = R_Pa ∧ y_Pa_expandDeclaration.cls ≠ "java/lang/invoke/MethodHandle" ∧ y_Pa_expandDeclaration.cls ≠ "java/lang/invoke/VarHandle" ∧ (parseMethodDescriptor y_Pa_expandDeclaration.desc).map (fun d => d.parameters.length) = some 0 := by decide +kernel
theorem dd_Pa_expandMoreAtoms : y_Pa_expandMoreAtoms.cls = R_Pa ∧ y_Pa_expandMoreAtoms.cls ≠ "java/lang/invoke/MethodHandle" ∧ y_Pa_expandMoreAtoms.cls ≠ "java/lang/invoke/VarHandle" ∧ (parseMethodDescriptor y_Pa_expandMoreAtoms.desc).map (fun d => d.parameters.length) = some 0 := by decide +kernel
theorem dd_Pa_expandTerm : y_Pa_expandTerm.cls = R_Pa ∧ y_Pa_expandTerm.cls ≠ "java/lang/invoke/MethodHandle" ∧ y_Pa_expandTerm.cls ≠ "java/lang/invoke/VarHandle" ∧ (parseMethodDescriptor y_Pa_expandTerm.desc).map (fun d => d.parameters.length) = some 0 := by decide +kernel
theorem dd_Pa_expandTypeOrNothing : y_Pa_expandTypeOrNothing.cls = R_Pa ∧ y_Pa_expandTypeOrNothing.cls ≠ "java/lang/invoke/MethodHandle" ∧ y_Pa_expandTypeOrNothing.cls ≠ "java/lang/invoke/VarHandle" ∧ (parseMethodDescriptor y_Pa_expandTypeOrNothing.desc).map (fun d => d.parameters.length) = some 0 := by decide +kernel
theorem dd_Pa_finish : y_Pa_finish.cls = R_Pa ∧ y_Pa_finish.cls ≠ "java/lang/invoke/MethodHandle" ∧ y_Pa_finish.cls ≠ "java/lang/invoke/VarHandle" ∧ (parseMethodDescriptor y_Pa_finish.desc).map (fun d => d.parameters.length) = some 1 := by decide +kernel
theorem dd_Pa_goDeeper : y_Pa_goDeeper.cls = R_Pa ∧ y_Pa_goDeeper.cls ≠ "java/lang/invoke/MethodHandle" ∧ y_Pa_goDeeper.cls ≠ "java/lang/invoke/VarHandle" ∧ (parseMethodDescriptor y_Pa_goDeeper.desc).map (fun d => d.parameters.length) = some 0 := by decide +kernel
theorem dd_Pa_isNot : y_Pa_isNot.cls = R_Pa ∧ y_Pa_isNot.cls ≠ "java/lang/invoke/MethodHandle" ∧ y_Pa_isNot.cls ≠ "java/lang/invoke/VarHandle" ∧ (parseMethodDescriptor y_Pa_isNot.desc).map (fun d => d.parameters.length) = some 1 := by decide +kernel
theorem dd_Pa_parse : y_Pa_parse.cls = R_Pa ∧ y_Pa_parse.cls ≠ "java/lang/invoke/MethodHandle" ∧ y_Pa_parse.cls ≠ "java/lang/invoke/VarHandle" ∧ (parseMethodDescriptor y_Pa_parse.desc).map (fun d => d.parameters.length) = some 2 := by decide +kernel
theorem dd_Pa_rise : y_Pa_rise.cls = R_Pa ∧ y_Pa_rise.cls ≠ "java/lang/invoke/MethodHandle" ∧ y_Pa_rise.cls ≠ "java/lang/invoke/VarHandle" ∧ (parseMethodDescriptor y_Pa_rise.desc).map (fun d => d.parameters.length) = some 0 := by decide +kernel
theorem dd_Pa_take : y_Pa_take.cls = R_Pa ∧ y_Pa_take.cls ≠ "java/lang/invoke/MethodHandle" ∧ y_Pa_take.cls ≠ "java/lang/invoke/VarHandle" ∧ (parseMethodDescriptor y_Pa_take.desc).map (fun d => d.parameters.length) = some 1 := by decide +kernel
theorem dd_Pa_takeDeclaration : y_Pa_takeDeclaration.cls = R_Pa ∧ y_Pa_takeDeclaration.cls ≠ "java/lang/invoke/MethodHandle" ∧ y_Pa_takeDeclaration.cls ≠ "java/lang/invoke/VarHandle" ∧ (parseMethodDescriptor y_Pa_takeDeclaration.desc).map (fun d => d.parameters.length) = some 0 := by decide +kernel
theorem dd_Pa_takeLeaf : y_Pa_takeLeaf.cls = R_Pa ∧ y_Pa_takeLeaf.cls ≠ "java/lang/invoke/MethodHandle" ∧ y_Pa_takeLeaf.cls ≠ "java/lang/invoke/VarHandle" ∧ (parseMethodDescriptor y_Pa_takeLeaf.desc).map (fun d => d.parameters.length) = some 2 := by decide +kernel
theorem dd_Pa_takeToken : y_Pa_takeToken.cls = R_Pa ∧ y_Pa_takeToken.cls ≠ "java/lang/invoke/MethodHandle" ∧ y_Pa_takeToken.cls ≠ "java/lang/invoke/VarHandle" ∧ (parseMethodDescriptor y_Pa_takeToken.desc).map (fun d => d.parameters.length) = some 1 := by decide +kernel
theorem dd_To_beginsAtom : y_To_beginsAtom.cls = R_To ∧ y_To_beginsAtom.cls ≠ "java/lang/invoke/MethodHandle" ∧ y_To_beginsAtom.cls ≠ "java/lang/invoke/VarHandle" ∧ (parseMethodDescriptor y_To_beginsAtom.desc).map (fun d => d.parameters.length) = some 1 := by decide +kernel
theorem dd_To_signOf : y_To_signOf.cls = R_To ∧ y_To_signOf.cls ≠ "java/lang/invoke/MethodHandle" ∧ y_To_signOf.cls ≠ "java/lang/invoke/VarHandle" ∧ (parseMethodDescriptor y_To_signOf.desc).map (fun d => d.parameters.length) = some 2 := by decide +kernel
theorem dd_To_spelling : y_To_spelling.cls = R_To ∧ y_To_spelling.cls ≠ "java/lang/invoke/MethodHandle" ∧ y_To_spelling.cls ≠ "java/lang/invoke/VarHandle" ∧ (parseMethodDescriptor y_To_spelling.desc).map (fun d => d.parameters.length) = some 1 := by decide +kernel
theorem dd_Tk_init : y_Tk_init.cls = R_Tk ∧ y_Tk_init.cls ≠ "java/lang/invoke/MethodHandle" ∧ y_Tk_init.cls ≠ "java/lang/invoke/VarHandle" ∧ (parseMethodDescriptor y_Tk_init.desc).map (fun d => d.parameters.length) = some 0 := by decide +kernel
theorem dd_Tk_addToken : y_Tk_addToken.cls = R_Tk ∧ y_Tk_addToken.cls ≠ "java/lang/invoke/MethodHandle" ∧ y_Tk_addToken.cls ≠ "java/lang/invoke/VarHandle" ∧ (parseMethodDescriptor y_Tk_addToken.desc).map (fun d => d.parameters.length) = some 4 := by decide +kernel
theorem dd_Tk_advance : y_Tk_advance.cls = R_Tk ∧ y_Tk_advance.cls ≠ "java/lang/invoke/MethodHandle" ∧ y_Tk_advance.cls ≠ "java/lang/invoke/VarHandle" ∧ (parseMethodDescriptor y_Tk_advance.desc).map (fun d => d.parameters.length) = some 0 := by decide +kernel
theorem dd_Tk_behindBlank : y_Tk_behindBlank.cls = R_Tk ∧ y_Tk_behindBlank.cls ≠ "java/lang/invoke/MethodHandle" ∧ y_Tk_behindBlank.cls ≠ "java/lang/invoke/VarHandle" ∧ (parseMethodDescriptor y_Tk_behindBlank.desc).map (fun d => d.parameters.length) = some 3 := by decide +kernel
theorem dd_Tk_behindBlanks : y_Tk_behindBlanks.cls = R_Tk ∧ y_Tk_behindBlanks.cls ≠ "java/lang/invoke/MethodHandle" ∧ y_Tk_behindBlanks.cls ≠ "java/lang/invoke/VarHandle" ∧ (parseMethodDescriptor y_Tk_behindBlanks.desc).map (fun d => d.parameters.length) = some 3 := by decide +kernel
theorem dd_Tk_behindLine : y_Tk_behindLine.cls = R_Tk ∧ y_Tk_behindLine.cls ≠ "java/lang/invoke/MethodHandle" ∧ y_Tk_behindLine.cls ≠ "java/lang/invoke/VarHandle" ∧ (parseMethodDescriptor y_Tk_behindLine.desc).map (fun d => d.parameters.length) = some 3 := by decide +kernel
theorem dd_Tk_behindRemark : y_Tk_behindRemark.cls = R_Tk ∧ y_Tk_behindRemark.cls ≠ "java/lang/invoke/MethodHandle" ∧ y_Tk_behindRemark.cls ≠ "java/lang/invoke/VarHandle" ∧ (parseMethodDescriptor y_Tk_behindRemark.desc).map (fun d => d.parameters.length) = some 3 := by decide +kernel
theorem dd_Tk_digitAt : y_Tk_digitAt.cls = R_Tk ∧ y_Tk_digitAt.cls ≠ "java/lang/invoke/MethodHandle" ∧ y_Tk_digitAt.cls ≠ "java/lang/invoke/VarHandle" ∧ (parseMethodDescriptor y_Tk_digitAt.desc).map (fun d => d.parameters.length) = some 2 := by decide +kernel
theorem dd_Tk_isDigit : y_Tk_isDigit.cls = R_Tk ∧ y_Tk_isDigit.cls ≠ "java/lang/invoke/MethodHandle" ∧ y_Tk_isDigit.cls ≠ "java/lang/invoke/VarHandle" ∧ (parseMethodDescriptor y_Tk_isDigit.desc).map (fun d => d.parameters.length) = some 1 := by decide +kernel
theorem dd_Tk_isInName : y_Tk_isInName.cls = R_Tk ∧ y_Tk_isInName.cls ≠ "java/lang/invoke/MethodHandle" ∧ y_Tk_isInName.cls ≠ "java/lang/invoke/VarHandle" ∧ (parseMethodDescriptor y_Tk_isInName.desc).map (fun d => d.parameters.length) = some 1 := by decide +kernel
theorem dd_Tk_isLetter : y_Tk_isLetter.cls = R_Tk ∧ y_Tk_isLetter.cls ≠ "java/lang/invoke/MethodHandle" ∧ y_Tk_isLetter.cls ≠ "java/lang/invoke/VarHandle" ∧ (parseMethodDescriptor y_Tk_isLetter.desc).map (fun d => d.parameters.length) = some 1 := by decide +kernel
theorem dd_Tk_isWord : y_Tk_isWord.cls = R_Tk ∧ y_Tk_isWord.cls ≠ "java/lang/invoke/MethodHandle" ∧ y_Tk_isWord.cls ≠ "java/lang/invoke/VarHandle" ∧ (parseMethodDescriptor y_Tk_isWord.desc).map (fun d => d.parameters.length) = some 4 := by decide +kernel
theorem dd_Tk_nextKind : y_Tk_nextKind.cls = R_Tk ∧ y_Tk_nextKind.cls ≠ "java/lang/invoke/MethodHandle" ∧ y_Tk_nextKind.cls ≠ "java/lang/invoke/VarHandle" ∧ (parseMethodDescriptor y_Tk_nextKind.desc).map (fun d => d.parameters.length) = some 0 := by decide +kernel
theorem dd_Tk_nextPlace : y_Tk_nextPlace.cls = R_Tk ∧ y_Tk_nextPlace.cls ≠ "java/lang/invoke/MethodHandle" ∧ y_Tk_nextPlace.cls ≠ "java/lang/invoke/VarHandle" ∧ (parseMethodDescriptor y_Tk_nextPlace.desc).map (fun d => d.parameters.length) = some 0 := by decide +kernel
theorem dd_Tk_nextValue : y_Tk_nextValue.cls = R_Tk ∧ y_Tk_nextValue.cls ≠ "java/lang/invoke/MethodHandle" ∧ y_Tk_nextValue.cls ≠ "java/lang/invoke/VarHandle" ∧ (parseMethodDescriptor y_Tk_nextValue.desc).map (fun d => d.parameters.length) = some 0 := by decide +kernel
theorem dd_Tk_scan : y_Tk_scan.cls = R_Tk ∧ y_Tk_scan.cls ≠ "java/lang/invoke/MethodHandle" ∧ y_Tk_scan.cls ≠ "java/lang/invoke/VarHandle" ∧ (parseMethodDescriptor y_Tk_scan.desc).map (fun d => d.parameters.length) = some 2 := by decide +kernel
theorem dd_Tk_scanSign : y_Tk_scanSign.cls = R_Tk ∧ y_Tk_scanSign.cls ≠ "java/lang/invoke/MethodHandle" ∧ y_Tk_scanSign.cls ≠ "java/lang/invoke/VarHandle" ∧ (parseMethodDescriptor y_Tk_scanSign.desc).map (fun d => d.parameters.length) = some 3 := by decide +kernel
theorem dd_Tk_scanWord : y_Tk_scanWord.cls = R_Tk ∧ y_Tk_scanWord.cls ≠ "java/lang/invoke/MethodHandle" ∧ y_Tk_scanWord.cls ≠ "java/lang/invoke/VarHandle" ∧ (parseMethodDescriptor y_Tk_scanWord.desc).map (fun d => d.parameters.length) = some 3 := by decide +kernel
theorem dd_Tk_sortAt : y_Tk_sortAt.cls = R_Tk ∧ y_Tk_sortAt.cls ≠ "java/lang/invoke/MethodHandle" ∧ y_Tk_sortAt.cls ≠ "java/lang/invoke/VarHandle" ∧ (parseMethodDescriptor y_Tk_sortAt.desc).map (fun d => d.parameters.length) = some 3 := by decide +kernel
theorem dd_Tk_wordAt : y_Tk_wordAt.cls = R_Tk ∧ y_Tk_wordAt.cls ≠ "java/lang/invoke/MethodHandle" ∧ y_Tk_wordAt.cls ≠ "java/lang/invoke/VarHandle" ∧ (parseMethodDescriptor y_Tk_wordAt.desc).map (fun d => d.parameters.length) = some 3 := by decide +kernel
theorem dd_Tr_init : y_Tr_init.cls = R_Tr ∧ y_Tr_init.cls ≠ "java/lang/invoke/MethodHandle" ∧ y_Tr_init.cls ≠ "java/lang/invoke/VarHandle" ∧ (parseMethodDescriptor y_Tr_init.desc).map (fun d => d.parameters.length) = some 0 := by decide +kernel
theorem dd_Tr_equalsButForPlaces : y_Tr_equalsButForPlaces.cls = R_Tr ∧ y_Tr_equalsButForPlaces.cls ≠ "java/lang/invoke/MethodHandle" ∧ y_Tr_equalsButForPlaces.cls ≠ "java/lang/invoke/VarHandle" ∧ (parseMethodDescriptor y_Tr_equalsButForPlaces.desc).map (fun d => d.parameters.length) = some 1 := by decide +kernel
theorem dd_Tr_has : y_Tr_has.cls = R_Tr ∧ y_Tr_has.cls ≠ "java/lang/invoke/MethodHandle" ∧ y_Tr_has.cls ≠ "java/lang/invoke/VarHandle" ∧ (parseMethodDescriptor y_Tr_has.desc).map (fun d => d.parameters.length) = some 1 := by decide +kernel
theorem dd_Tr_isFirstPart : y_Tr_isFirstPart.cls = R_Tr ∧ y_Tr_isFirstPart.cls ≠ "java/lang/invoke/MethodHandle" ∧ y_Tr_isFirstPart.cls ≠ "java/lang/invoke/VarHandle" ∧ (parseMethodDescriptor y_Tr_isFirstPart.desc).map (fun d => d.parameters.length) = some 1 := by decide +kernel
theorem dd_Tr_isLastPart : y_Tr_isLastPart.cls = R_Tr ∧ y_Tr_isLastPart.cls ≠ "java/lang/invoke/MethodHandle" ∧ y_Tr_isLastPart.cls ≠ "java/lang/invoke/VarHandle" ∧ (parseMethodDescriptor y_Tr_isLastPart.desc).map (fun d => d.parameters.length) = some 1 := by decide +kernel
theorem dd_Tr_kindOf : y_Tr_kindOf.cls = R_Tr ∧ y_Tr_kindOf.cls ≠ "java/lang/invoke/MethodHandle" ∧ y_Tr_kindOf.cls ≠ "java/lang/invoke/VarHandle" ∧ (parseMethodDescriptor y_Tr_kindOf.desc).map (fun d => d.parameters.length) = some 1 := by decide +kernel
theorem dd_Tr_makeRoom : y_Tr_makeRoom.cls = R_Tr ∧ y_Tr_makeRoom.cls ≠ "java/lang/invoke/MethodHandle" ∧ y_Tr_makeRoom.cls ≠ "java/lang/invoke/VarHandle" ∧ (parseMethodDescriptor y_Tr_makeRoom.desc).map (fun d => d.parameters.length) = some 1 := by decide +kernel
theorem dd_Tr_numberNames : y_Tr_numberNames.cls = R_Tr ∧ y_Tr_numberNames.cls ≠ "java/lang/invoke/MethodHandle" ∧ y_Tr_numberNames.cls ≠ "java/lang/invoke/VarHandle" ∧ (parseMethodDescriptor y_Tr_numberNames.desc).map (fun d => d.parameters.length) = some 2 := by decide +kernel
theorem dd_Tr_partOf : y_Tr_partOf.cls = R_Tr ∧ y_Tr_partOf.cls ≠ "java/lang/invoke/MethodHandle" ∧ y_Tr_partOf.cls ≠ "java/lang/invoke/VarHandle" ∧ (parseMethodDescriptor y_Tr_partOf.desc).map (fun d => d.parameters.length) = some 2 := by decide +kernel
theorem dd_Tr_put : y_Tr_put.cls = R_Tr ∧ y_Tr_put.cls ≠ "java/lang/invoke/MethodHandle" ∧ y_Tr_put.cls ≠ "java/lang/invoke/VarHandle" ∧ (parseMethodDescriptor y_Tr_put.desc).map (fun d => d.parameters.length) = some 6 := by decide +kernel
theorem dd_Tr_putWhole : y_Tr_putWhole.cls = R_Tr ∧ y_Tr_putWhole.cls ≠ "java/lang/invoke/MethodHandle" ∧ y_Tr_putWhole.cls ≠ "java/lang/invoke/VarHandle" ∧ (parseMethodDescriptor y_Tr_putWhole.desc).map (fun d => d.parameters.length) = some 2 := by decide +kernel
theorem dd_Tr_sizeOf : y_Tr_sizeOf.cls = R_Tr ∧ y_Tr_sizeOf.cls ≠ "java/lang/invoke/MethodHandle" ∧ y_Tr_sizeOf.cls ≠ "java/lang/invoke/VarHandle" ∧ (parseMethodDescriptor y_Tr_sizeOf.desc).map (fun d => d.parameters.length) = some 1 := by decide +kernel
theorem dd_Tr_tell : y_Tr_tell.cls = R_Tr ∧ y_Tr_tell.cls ≠ "java/lang/invoke/MethodHandle" ∧ y_Tr_tell.cls ≠ "java/lang/invoke/VarHandle" ∧ (parseMethodDescriptor y_Tr_tell.desc).map (fun d => d.parameters.length) = some 2 := by decide +kernel
theorem dd_Tr_wholeOf : y_Tr_wholeOf.cls = R_Tr ∧ y_Tr_wholeOf.cls ≠ "java/lang/invoke/MethodHandle" ∧ y_Tr_wholeOf.cls ≠ "java/lang/invoke/VarHandle" ∧ (parseMethodDescriptor y_Tr_wholeOf.desc).map (fun d => d.parameters.length) = some 1 := by decide +kernel
theorem dd_Wr_init : y_Wr_init.cls = R_Wr ∧ y_Wr_init.cls ≠ "java/lang/invoke/MethodHandle" ∧ y_Wr_init.cls ≠ "java/lang/invoke/VarHandle" ∧ (parseMethodDescriptor y_Wr_init.desc).map (fun d => d.parameters.length) = some 0 := by decide +kernel
theorem dd_Wr_enter : y_Wr_enter.cls = R_Wr ∧ y_Wr_enter.cls ≠ "java/lang/invoke/MethodHandle" ∧ y_Wr_enter.cls ≠ "java/lang/invoke/VarHandle" ∧ (parseMethodDescriptor y_Wr_enter.desc).map (fun d => d.parameters.length) = some 4 := by decide +kernel
theorem dd_Wr_firstWord : y_Wr_firstWord.cls = R_Wr ∧ y_Wr_firstWord.cls ≠ "java/lang/invoke/MethodHandle" ∧ y_Wr_firstWord.cls ≠ "java/lang/invoke/VarHandle" ∧ (parseMethodDescriptor y_Wr_firstWord.desc).map (fun d => d.parameters.length) = some 1 := by decide +kernel
theorem dd_Wr_hasBrackets : y_Wr_hasBrackets.cls = R_Wr ∧ y_Wr_hasBrackets.cls ≠ "java/lang/invoke/MethodHandle" ∧ y_Wr_hasBrackets.cls ≠ "java/lang/invoke/VarHandle" ∧ (parseMethodDescriptor y_Wr_hasBrackets.desc).map (fun d => d.parameters.length) = some 3 := by decide +kernel
theorem dd_Wr_isDeclaration : y_Wr_isDeclaration.cls = R_Wr ∧ y_Wr_isDeclaration.cls ≠ "java/lang/invoke/MethodHandle" ∧ y_Wr_isDeclaration.cls ≠ "java/lang/invoke/VarHandle" ∧ (parseMethodDescriptor y_Wr_isDeclaration.desc).map (fun d => d.parameters.length) = some 1 := by decide +kernel
theorem dd_Wr_leave : y_Wr_leave.cls = R_Wr ∧ y_Wr_leave.cls ≠ "java/lang/invoke/MethodHandle" ∧ y_Wr_leave.cls ≠ "java/lang/invoke/VarHandle" ∧ (parseMethodDescriptor y_Wr_leave.desc).map (fun d => d.parameters.length) = some 3 := by decide +kernel
theorem dd_Wr_putBlank : y_Wr_putBlank.cls = R_Wr ∧ y_Wr_putBlank.cls ≠ "java/lang/invoke/MethodHandle" ∧ y_Wr_putBlank.cls ≠ "java/lang/invoke/VarHandle" ∧ (parseMethodDescriptor y_Wr_putBlank.desc).map (fun d => d.parameters.length) = some 0 := by decide +kernel
theorem dd_Wr_putName : y_Wr_putName.cls = R_Wr ∧ y_Wr_putName.cls ≠ "java/lang/invoke/MethodHandle" ∧ y_Wr_putName.cls ≠ "java/lang/invoke/VarHandle" ∧ (parseMethodDescriptor y_Wr_putName.desc).map (fun d => d.parameters.length) = some 2 := by decide +kernel
theorem dd_Wr_putSort : y_Wr_putSort.cls = R_Wr ∧ y_Wr_putSort.cls ≠ "java/lang/invoke/MethodHandle" ∧ y_Wr_putSort.cls ≠ "java/lang/invoke/VarHandle" ∧ (parseMethodDescriptor y_Wr_putSort.desc).map (fun d => d.parameters.length) = some 1 := by decide +kernel
theorem dd_Wr_putText : y_Wr_putText.cls = R_Wr ∧ y_Wr_putText.cls ≠ "java/lang/invoke/MethodHandle" ∧ y_Wr_putText.cls ≠ "java/lang/invoke/VarHandle" ∧ (parseMethodDescriptor y_Wr_putText.desc).map (fun d => d.parameters.length) = some 1 := by decide +kernel
theorem dd_Wr_putToken : y_Wr_putToken.cls = R_Wr ∧ y_Wr_putToken.cls ≠ "java/lang/invoke/MethodHandle" ∧ y_Wr_putToken.cls ≠ "java/lang/invoke/VarHandle" ∧ (parseMethodDescriptor y_Wr_putToken.desc).map (fun d => d.parameters.length) = some 1 := by decide +kernel
theorem dd_Wr_show : y_Wr_show.cls = R_Wr ∧ y_Wr_show.cls ≠ "java/lang/invoke/MethodHandle" ∧ y_Wr_show.cls ≠ "java/lang/invoke/VarHandle" ∧ (parseMethodDescriptor y_Wr_show.desc).map (fun d => d.parameters.length) = some 3 := by decide +kernel
theorem dd_Wr_tokenBefore : y_Wr_tokenBefore.cls = R_Wr ∧ y_Wr_tokenBefore.cls ≠ "java/lang/invoke/MethodHandle" ∧ y_Wr_tokenBefore.cls ≠ "java/lang/invoke/VarHandle" ∧ (parseMethodDescriptor y_Wr_tokenBefore.desc).map (fun d => d.parameters.length) = some 2 := by decide +kernel
theorem dd_Wr_tokenInLet : y_Wr_tokenInLet.cls = R_Wr ∧ y_Wr_tokenInLet.cls ≠ "java/lang/invoke/MethodHandle" ∧ y_Wr_tokenInLet.cls ≠ "java/lang/invoke/VarHandle" ∧ (parseMethodDescriptor y_Wr_tokenInLet.desc).map (fun d => d.parameters.length) = some 2 := by decide +kernel
theorem dd_Wr_walk : y_Wr_walk.cls = R_Wr ∧ y_Wr_walk.cls ≠ "java/lang/invoke/MethodHandle" ∧ y_Wr_walk.cls ≠ "java/lang/invoke/VarHandle" ∧ (parseMethodDescriptor y_Wr_walk.desc).map (fun d => d.parameters.length) = some 3 := by decide +kernel
theorem dd_Mo_init : y_Mo_init.cls = R_Mo ∧ y_Mo_init.cls ≠ "java/lang/invoke/MethodHandle" ∧ y_Mo_init.cls ≠ "java/lang/invoke/VarHandle" ∧ (parseMethodDescriptor y_Mo_init.desc).map (fun d => d.parameters.length) = some 0 := by decide +kernel
theorem dd_Mo_add : y_Mo_add.cls = R_Mo ∧ y_Mo_add.cls ≠ "java/lang/invoke/MethodHandle" ∧ y_Mo_add.cls ≠ "java/lang/invoke/VarHandle" ∧ (parseMethodDescriptor y_Mo_add.desc).map (fun d => d.parameters.length) = some 5 := by decide +kernel
theorem dd_Mo_again : y_Mo_again.cls = R_Mo ∧ y_Mo_again.cls ≠ "java/lang/invoke/MethodHandle" ∧ y_Mo_again.cls ≠ "java/lang/invoke/VarHandle" ∧ (parseMethodDescriptor y_Mo_again.desc).map (fun d => d.parameters.length) = some 0 := by decide +kernel
theorem dd_Mo_atom : y_Mo_atom.cls = R_Mo ∧ y_Mo_atom.cls ≠ "java/lang/invoke/MethodHandle" ∧ y_Mo_atom.cls ≠ "java/lang/invoke/VarHandle" ∧ (parseMethodDescriptor y_Mo_atom.desc).map (fun d => d.parameters.length) = some 1 := by decide +kernel
theorem dd_Mo_behindBlanks : y_Mo_behindBlanks.cls = R_Mo ∧ y_Mo_behindBlanks.cls ≠ "java/lang/invoke/MethodHandle" ∧ y_Mo_behindBlanks.cls ≠ "java/lang/invoke/VarHandle" ∧ (parseMethodDescriptor y_Mo_behindBlanks.desc).map (fun d => d.parameters.length) = some 1 := by decide +kernel
theorem dd_Mo_bracket : y_Mo_bracket.cls = R_Mo ∧ y_Mo_bracket.cls ≠ "java/lang/invoke/MethodHandle" ∧ y_Mo_bracket.cls ≠ "java/lang/invoke/VarHandle" ∧ (parseMethodDescriptor y_Mo_bracket.desc).map (fun d => d.parameters.length) = some 3 := by decide +kernel
theorem dd_Mo_clear : y_Mo_clear.cls = R_Mo ∧ y_Mo_clear.cls ≠ "java/lang/invoke/MethodHandle" ∧ y_Mo_clear.cls ≠ "java/lang/invoke/VarHandle" ∧ (parseMethodDescriptor y_Mo_clear.desc).map (fun d => d.parameters.length) = some 1 := by decide +kernel
theorem dd_Mo_declaration : y_Mo_declaration.cls = R_Mo ∧ y_Mo_declaration.cls ≠ "java/lang/invoke/MethodHandle" ∧ y_Mo_declaration.cls ≠ "java/lang/invoke/VarHandle" ∧ (parseMethodDescriptor y_Mo_declaration.desc).map (fun d => d.parameters.length) = some 0 := by decide +kernel
theorem dd_Mo_draft : y_Mo_draft.cls = R_Mo ∧ y_Mo_draft.cls ≠ "java/lang/invoke/MethodHandle" ∧ y_Mo_draft.cls ≠ "java/lang/invoke/VarHandle" ∧ (parseMethodDescriptor y_Mo_draft.desc).map (fun d => d.parameters.length) = some 3 := by decide +kernel
theorem dd_Mo_fault : y_Mo_fault.cls = R_Mo ∧ y_Mo_fault.cls ≠ "java/lang/invoke/MethodHandle" ∧ y_Mo_fault.cls ≠ "java/lang/invoke/VarHandle" ∧ (parseMethodDescriptor y_Mo_fault.desc).map (fun d => d.parameters.length) = some 0 := by decide +kernel
theorem dd_Mo_feed : y_Mo_feed.cls = R_Mo ∧ y_Mo_feed.cls ≠ "java/lang/invoke/MethodHandle" ∧ y_Mo_feed.cls ≠ "java/lang/invoke/VarHandle" ∧ (parseMethodDescriptor y_Mo_feed.desc).map (fun d => d.parameters.length) = some 5 := by decide +kernel
theorem dd_Mo_groups : y_Mo_groups.cls = R_Mo ∧ y_Mo_groups.cls ≠ "java/lang/invoke/MethodHandle" ∧ y_Mo_groups.cls ≠ "java/lang/invoke/VarHandle" ∧ (parseMethodDescriptor y_Mo_groups.desc).map (fun d => d.parameters.length) = some 2 := by decide +kernel
theorem dd_Mo_has : y_Mo_has.cls = R_Mo ∧ y_Mo_has.cls ≠ "java/lang/invoke/MethodHandle" ∧ y_Mo_has.cls ≠ "java/lang/invoke/VarHandle" ∧ (parseMethodDescriptor y_Mo_has.desc).map (fun d => d.parameters.length) = some 2 := by decide +kernel
theorem dd_Mo_isAt : y_Mo_isAt.cls = R_Mo ∧ y_Mo_isAt.cls ≠ "java/lang/invoke/MethodHandle" ∧ y_Mo_isAt.cls ≠ "java/lang/invoke/VarHandle" ∧ (parseMethodDescriptor y_Mo_isAt.desc).map (fun d => d.parameters.length) = some 3 := by decide +kernel
theorem dd_Mo_isAtom : y_Mo_isAtom.cls = R_Mo ∧ y_Mo_isAtom.cls ≠ "java/lang/invoke/MethodHandle" ∧ y_Mo_isAtom.cls ≠ "java/lang/invoke/VarHandle" ∧ (parseMethodDescriptor y_Mo_isAtom.desc).map (fun d => d.parameters.length) = some 0 := by decide +kernel
theorem dd_Mo_isDigit : y_Mo_isDigit.cls = R_Mo ∧ y_Mo_isDigit.cls ≠ "java/lang/invoke/MethodHandle" ∧ y_Mo_isDigit.cls ≠ "java/lang/invoke/VarHandle" ∧ (parseMethodDescriptor y_Mo_isDigit.desc).map (fun d => d.parameters.length) = some 1 := by decide +kernel
theorem dd_Mo_isLetter : y_Mo_isLetter.cls = R_Mo ∧ y_Mo_isLetter.cls ≠ "java/lang/invoke/MethodHandle" ∧ y_Mo_isLetter.cls ≠ "java/lang/invoke/VarHandle" ∧ (parseMethodDescriptor y_Mo_isLetter.desc).map (fun d => d.parameters.length) = some 1 := by decide +kernel
theorem dd_Mo_isOpen : y_Mo_isOpen.cls = R_Mo ∧ y_Mo_isOpen.cls ≠ "java/lang/invoke/MethodHandle" ∧ y_Mo_isOpen.cls ≠ "java/lang/invoke/VarHandle" ∧ (parseMethodDescriptor y_Mo_isOpen.desc).map (fun d => d.parameters.length) = some 1 := by decide +kernel
theorem dd_Mo_join : y_Mo_join.cls = R_Mo ∧ y_Mo_join.cls ≠ "java/lang/invoke/MethodHandle" ∧ y_Mo_join.cls ≠ "java/lang/invoke/VarHandle" ∧ (parseMethodDescriptor y_Mo_join.desc).map (fun d => d.parameters.length) = some 2 := by decide +kernel
theorem dd_Mo_keep : y_Mo_keep.cls = R_Mo ∧ y_Mo_keep.cls ≠ "java/lang/invoke/MethodHandle" ∧ y_Mo_keep.cls ≠ "java/lang/invoke/VarHandle" ∧ (parseMethodDescriptor y_Mo_keep.desc).map (fun d => d.parameters.length) = some 2 := by decide +kernel
theorem dd_Mo_kindAt : y_Mo_kindAt.cls = R_Mo ∧ y_Mo_kindAt.cls ≠ "java/lang/invoke/MethodHandle" ∧ y_Mo_kindAt.cls ≠ "java/lang/invoke/VarHandle" ∧ (parseMethodDescriptor y_Mo_kindAt.desc).map (fun d => d.parameters.length) = some 2 := by decide +kernel
theorem dd_Mo_look : y_Mo_look.cls = R_Mo ∧ y_Mo_look.cls ≠ "java/lang/invoke/MethodHandle" ∧ y_Mo_look.cls ≠ "java/lang/invoke/VarHandle" ∧ (parseMethodDescriptor y_Mo_look.desc).map (fun d => d.parameters.length) = some 0 := by decide +kernel
theorem dd_Mo_members : y_Mo_members.cls = R_Mo ∧ y_Mo_members.cls ≠ "java/lang/invoke/MethodHandle" ∧ y_Mo_members.cls ≠ "java/lang/invoke/VarHandle" ∧ (parseMethodDescriptor y_Mo_members.desc).map (fun d => d.parameters.length) = some 2 := by decide +kernel
theorem dd_Mo_name : y_Mo_name.cls = R_Mo ∧ y_Mo_name.cls ≠ "java/lang/invoke/MethodHandle" ∧ y_Mo_name.cls ≠ "java/lang/invoke/VarHandle" ∧ (parseMethodDescriptor y_Mo_name.desc).map (fun d => d.parameters.length) = some 1 := by decide +kernel
theorem dd_Mo_names : y_Mo_names.cls = R_Mo ∧ y_Mo_names.cls ≠ "java/lang/invoke/MethodHandle" ∧ y_Mo_names.cls ≠ "java/lang/invoke/VarHandle" ∧ (parseMethodDescriptor y_Mo_names.desc).map (fun d => d.parameters.length) = some 0 := by decide +kernel
theorem dd_Mo_need : y_Mo_need.cls = R_Mo ∧ y_Mo_need.cls ≠ "java/lang/invoke/MethodHandle" ∧ y_Mo_need.cls ≠ "java/lang/invoke/VarHandle" ∧ (parseMethodDescriptor y_Mo_need.desc).map (fun d => d.parameters.length) = some 1 := by decide +kernel
theorem dd_Mo_node : y_Mo_node.cls = R_Mo ∧ y_Mo_node.cls ≠ "java/lang/invoke/MethodHandle" ∧ y_Mo_node.cls ≠ "java/lang/invoke/VarHandle" ∧ (parseMethodDescriptor y_Mo_node.desc).map (fun d => d.parameters.length) = some 3 := by decide +kernel
theorem dd_Mo_nodes : y_Mo_nodes.cls = R_Mo ∧ y_Mo_nodes.cls ≠ "java/lang/invoke/MethodHandle" ∧ y_Mo_nodes.cls ≠ "java/lang/invoke/VarHandle" ∧ (parseMethodDescriptor y_Mo_nodes.desc).map (fun d => d.parameters.length) = some 1 := by decide +kernel
theorem dd_Mo_number : y_Mo_number.cls = R_Mo ∧ y_Mo_number.cls ≠ "java/lang/invoke/MethodHandle" ∧ y_Mo_number.cls ≠ "java/lang/invoke/VarHandle" ∧ (parseMethodDescriptor y_Mo_number.desc).map (fun d => d.parameters.length) = some 1 := by decide +kernel
theorem dd_Mo_part : y_Mo_part.cls = R_Mo ∧ y_Mo_part.cls ≠ "java/lang/invoke/MethodHandle" ∧ y_Mo_part.cls ≠ "java/lang/invoke/VarHandle" ∧ (parseMethodDescriptor y_Mo_part.desc).map (fun d => d.parameters.length) = some 3 := by decide +kernel
theorem dd_Mo_parts : y_Mo_parts.cls = R_Mo ∧ y_Mo_parts.cls ≠ "java/lang/invoke/MethodHandle" ∧ y_Mo_parts.cls ≠ "java/lang/invoke/VarHandle" ∧ (parseMethodDescriptor y_Mo_parts.desc).map (fun d => d.parameters.length) = some 2 := by decide +kernel
theorem dd_Mo_put : y_Mo_put.cls = R_Mo ∧ y_Mo_put.cls ≠ "java/lang/invoke/MethodHandle" ∧ y_Mo_put.cls ≠ "java/lang/invoke/VarHandle" ∧ (parseMethodDescriptor y_Mo_put.desc).map (fun d => d.parameters.length) = some 1 := by decide +kernel
theorem dd_Mo_read : y_Mo_read.cls = R_Mo ∧ y_Mo_read.cls ≠ "java/lang/invoke/MethodHandle" ∧ y_Mo_read.cls ≠ "java/lang/invoke/VarHandle" ∧ (parseMethodDescriptor y_Mo_read.desc).map (fun d => d.parameters.length) = some 2 := by decide +kernel
theorem dd_Mo_same : y_Mo_same.cls = R_Mo ∧ y_Mo_same.cls ≠ "java/lang/invoke/MethodHandle" ∧ y_Mo_same.cls ≠ "java/lang/invoke/VarHandle" ∧ (parseMethodDescriptor y_Mo_same.desc).map (fun d => d.parameters.length) = some 0 := by decide +kernel
theorem dd_Mo_sayApplied : y_Mo_sayApplied.cls = R_Mo ∧ y_Mo_sayApplied.cls ≠ "java/lang/invoke/MethodHandle" ∧ y_Mo_sayApplied.cls ≠ "java/lang/invoke/VarHandle" ∧ (parseMethodDescriptor y_Mo_sayApplied.desc).map (fun d => d.parameters.length) = some 2 := by decide +kernel
theorem dd_Mo_sayDeclaration : y_Mo_sayDeclaration.cls = R_Mo ∧ y_Mo_sayDeclaration.cls ≠ "java/lang/invoke/MethodHandle" ∧ y_Mo_sayDeclaration.cls ≠ "java/lang/invoke/VarHandle" ∧ (parseMethodDescriptor y_Mo_sayDeclaration.desc).map (fun d => d.parameters.length) = some 2 := by decide +kernel
theorem dd_Mo_sayGroup : y_Mo_sayGroup.cls = R_Mo ∧ y_Mo_sayGroup.cls ≠ "java/lang/invoke/MethodHandle" ∧ y_Mo_sayGroup.cls ≠ "java/lang/invoke/VarHandle" ∧ (parseMethodDescriptor y_Mo_sayGroup.desc).map (fun d => d.parameters.length) = some 2 := by decide +kernel
theorem dd_Mo_sayName : y_Mo_sayName.cls = R_Mo ∧ y_Mo_sayName.cls ≠ "java/lang/invoke/MethodHandle" ∧ y_Mo_sayName.cls ≠ "java/lang/invoke/VarHandle" ∧ (parseMethodDescriptor y_Mo_sayName.desc).map (fun d => d.parameters.length) = some 1 := by decide +kernel
theorem dd_Mo_sayTold : y_Mo_sayTold.cls = R_Mo ∧ y_Mo_sayTold.cls ≠ "java/lang/invoke/MethodHandle" ∧ y_Mo_sayTold.cls ≠ "java/lang/invoke/VarHandle" ∧ (parseMethodDescriptor y_Mo_sayTold.desc).map (fun d => d.parameters.length) = some 2 := by decide +kernel
theorem dd_Mo_scan : y_Mo_scan.cls = R_Mo ∧ y_Mo_scan.cls ≠ "java/lang/invoke/MethodHandle" ∧ y_Mo_scan.cls ≠ "java/lang/invoke/VarHandle" ∧ (parseMethodDescriptor y_Mo_scan.desc).map (fun d => d.parameters.length) = some 0 := by decide +kernel
theorem dd_Mo_show : y_Mo_show.cls = R_Mo ∧ y_Mo_show.cls ≠ "java/lang/invoke/MethodHandle" ∧ y_Mo_show.cls ≠ "java/lang/invoke/VarHandle" ∧ (parseMethodDescriptor y_Mo_show.desc).map (fun d => d.parameters.length) = some 2 := by decide +kernel
theorem dd_Mo_sort : y_Mo_sort.cls = R_Mo ∧ y_Mo_sort.cls ≠ "java/lang/invoke/MethodHandle" ∧ y_Mo_sort.cls ≠ "java/lang/invoke/VarHandle" ∧ (parseMethodDescriptor y_Mo_sort.desc).map (fun d => d.parameters.length) = some 0 := by decide +kernel
theorem dd_Mo_spells : y_Mo_spells.cls = R_Mo ∧ y_Mo_spells.cls ≠ "java/lang/invoke/MethodHandle" ∧ y_Mo_spells.cls ≠ "java/lang/invoke/VarHandle" ∧ (parseMethodDescriptor y_Mo_spells.desc).map (fun d => d.parameters.length) = some 3 := by decide +kernel
theorem dd_Mo_spelt : y_Mo_spelt.cls = R_Mo ∧ y_Mo_spelt.cls ≠ "java/lang/invoke/MethodHandle" ∧ y_Mo_spelt.cls ≠ "java/lang/invoke/VarHandle" ∧ (parseMethodDescriptor y_Mo_spelt.desc).map (fun d => d.parameters.length) = some 2 := by decide +kernel
theorem dd_Mo_take : y_Mo_take.cls = R_Mo ∧ y_Mo_take.cls ≠ "java/lang/invoke/MethodHandle" ∧ y_Mo_take.cls ≠ "java/lang/invoke/VarHandle" ∧ (parseMethodDescriptor y_Mo_take.desc).map (fun d => d.parameters.length) = some 1 := by decide +kernel
theorem dd_Mo_term : y_Mo_term.cls = R_Mo ∧ y_Mo_term.cls ≠ "java/lang/invoke/MethodHandle" ∧ y_Mo_term.cls ≠ "java/lang/invoke/VarHandle" ∧ (parseMethodDescriptor y_Mo_term.desc).map (fun d => d.parameters.length) = some 1 := by decide +kernel
theorem dd_Mo_text : y_Mo_text.cls = R_Mo ∧ y_Mo_text.cls ≠ "java/lang/invoke/MethodHandle" ∧ y_Mo_text.cls ≠ "java/lang/invoke/VarHandle" ∧ (parseMethodDescriptor y_Mo_text.desc).map (fun d => d.parameters.length) = some 1 := by decide +kernel
theorem dd_Mo_token : y_Mo_token.cls = R_Mo ∧ y_Mo_token.cls ≠ "java/lang/invoke/MethodHandle" ∧ y_Mo_token.cls ≠ "java/lang/invoke/VarHandle" ∧ (parseMethodDescriptor y_Mo_token.desc).map (fun d => d.parameters.length) = some 3 := by decide +kernel
theorem dd_Mo_told : y_Mo_told.cls = R_Mo ∧ y_Mo_told.cls ≠ "java/lang/invoke/MethodHandle" ∧ y_Mo_told.cls ≠ "java/lang/invoke/VarHandle" ∧ (parseMethodDescriptor y_Mo_told.desc).map (fun d => d.parameters.length) = some 1 := by decide +kernel
theorem dd_Mo_whole : y_Mo_whole.cls = R_Mo ∧ y_Mo_whole.cls ≠ "java/lang/invoke/MethodHandle" ∧ y_Mo_whole.cls ≠ "java/lang/invoke/VarHandle" ∧ (parseMethodDescriptor y_Mo_whole.desc).map (fun d => d.parameters.length) = some 2 := by decide +kernel
theorem dd_Mo_wordOf : y_Mo_wordOf.cls = R_Mo ∧ y_Mo_wordOf.cls ≠ "java/lang/invoke/MethodHandle" ∧ y_Mo_wordOf.cls ≠ "java/lang/invoke/VarHandle" ∧ (parseMethodDescriptor y_Mo_wordOf.desc).map (fun d => d.parameters.length) = some 2 := by decide +kernel
theorem dd_Mo_write : y_Mo_write.cls = R_Mo ∧ y_Mo_write.cls ≠ "java/lang/invoke/MethodHandle" ∧ y_Mo_write.cls ≠ "java/lang/invoke/VarHandle" ∧ (parseMethodDescriptor y_Mo_write.desc).map (fun d => d.parameters.length) = some 2 := by decide +kernel
theorem dd_Mo_written : y_Mo_written.cls = R_Mo ∧ y_Mo_written.cls ≠ "java/lang/invoke/MethodHandle" ∧ y_Mo_written.cls ≠ "java/lang/invoke/VarHandle" ∧ (parseMethodDescriptor y_Mo_written.desc).map (fun d => d.parameters.length) = some 1 := by decide +kernel
theorem dd_Js_charAt : y_Js_charAt.cls = R_Js ∧ y_Js_charAt.cls ≠ "java/lang/invoke/MethodHandle" ∧ y_Js_charAt.cls ≠ "java/lang/invoke/VarHandle" ∧ (parseMethodDescriptor y_Js_charAt.desc).map (fun d => d.parameters.length) = some 1 := by decide +kernel
theorem dd_Js_checkIndex : y_Js_checkIndex.cls = R_Js ∧ y_Js_checkIndex.cls ≠ "java/lang/invoke/MethodHandle" ∧ y_Js_checkIndex.cls ≠ "java/lang/invoke/VarHandle" ∧ (parseMethodDescriptor y_Js_checkIndex.desc).map (fun d => d.parameters.length) = some 2 := by decide +kernel
theorem dd_Js_coder : y_Js_coder.cls = R_Js ∧ y_Js_coder.cls ≠ "java/lang/invoke/MethodHandle" ∧ y_Js_coder.cls ≠ "java/lang/invoke/VarHandle" ∧ (parseMethodDescriptor y_Js_coder.desc).map (fun d => d.parameters.length) = some 0 := by decide +kernel
theorem dd_Js_isLatin1 : y_Js_isLatin1.cls = R_Js ∧ y_Js_isLatin1.cls ≠ "java/lang/invoke/MethodHandle" ∧ y_Js_isLatin1.cls ≠ "java/lang/invoke/VarHandle" ∧ (parseMethodDescriptor y_Js_isLatin1.desc).map (fun d => d.parameters.length) = some 0 := by decide +kernel
theorem dd_Js_length : y_Js_length.cls = R_Js ∧ y_Js_length.cls ≠ "java/lang/invoke/MethodHandle" ∧ y_Js_length.cls ≠ "java/lang/invoke/VarHandle" ∧ (parseMethodDescriptor y_Js_length.desc).map (fun d => d.parameters.length) = some 0 := by decide +kernel
theorem dd_Jl_charAt : y_Jl_charAt.cls = R_Jl ∧ y_Jl_charAt.cls ≠ "java/lang/invoke/MethodHandle" ∧ y_Jl_charAt.cls ≠ "java/lang/invoke/VarHandle" ∧ (parseMethodDescriptor y_Jl_charAt.desc).map (fun d => d.parameters.length) = some 2 := by decide +kernel
theorem dd_Jp_checkIndex : y_Jp_checkIndex.cls = R_Jp ∧ y_Jp_checkIndex.cls ≠ "java/lang/invoke/MethodHandle" ∧ y_Jp_checkIndex.cls ≠ "java/lang/invoke/VarHandle" ∧ (parseMethodDescriptor y_Jp_checkIndex.desc).map (fun d => d.parameters.length) = some 3 := by decide +kernel
theorem jw0 : (.fieldLink R_Js 38 "java/lang/String" "COMPACT_STRINGS" "Z" : Cond) ∈ gw := List.mem_filter.mpr ⟨List.mem_append_right _ (List.mem_append_right _ (List.mem_append_left _ (List.mem_of_getElem? (i := 57) rfl))), by rfl⟩
theorem jw1 : (.fieldLink R_Js 15 "java/lang/String" "coder" "B" : Cond) ∈ gw := List.mem_filter.mpr ⟨List.mem_append_right _ (List.mem_append_right _ (List.mem_append_right _ (List.mem_append_right _ (List.mem_append_right _ (List.mem_of_getElem? (i := 115) rfl))))), by rfl⟩
theorem jw2 : (.fieldLink R_Js 9 "java/lang/String" "value" "[B" : Cond) ∈ gw := List.mem_filter.mpr ⟨List.mem_append_right _ (List.mem_append_right _ (List.mem_append_right _ (List.mem_append_right _ (List.mem_append_right _ (List.mem_of_getElem? (i := 114) rfl))))), by rfl⟩
theorem jw3 : (.methodLink R_Js 335 y_Js_coder : Cond) ∈ gw := List.mem_filter.mpr ⟨List.mem_append_right _ (List.mem_append_right _ (List.mem_append_left _ (List.mem_of_getElem? (i := 53) rfl))), by rfl⟩
theorem jw4 : (.code y_Js_coder b_Js_coder 1 (some .byte) : Cond) ∈ gw := List.mem_filter.mpr ⟨List.mem_append_right _ (List.mem_append_right _ (List.mem_append_left _ (List.mem_of_getElem? (i := 56) rfl))), by rfl⟩
theorem jw5 : (.initialized R_Js : Cond) ∈ gw := List.mem_filter.mpr ⟨List.mem_append_right _ (List.mem_append_left _ (List.mem_of_getElem? (i := 10) rfl)), by rfl⟩
theorem jw6 : (.instanceMethod y_Js_coder : Cond) ∈ gw := List.mem_filter.mpr ⟨List.mem_append_right _ (List.mem_append_right _ (List.mem_append_left _ (List.mem_of_getElem? (i := 54) rfl))), by rfl⟩
theorem jw7 : (.selects R_Js y_Js_coder y_Js_coder : Cond) ∈ gw := List.mem_filter.mpr ⟨List.mem_append_right _ (List.mem_append_right _ (List.mem_append_left _ (List.mem_of_getElem? (i := 55) rfl))), by rfl⟩
theorem jw8 : (.fieldLink R_Js 1053 "jdk/internal/util/Preconditions" "SIOOBE_FORMATTER" "Ljava/util/function/BiFunction;" : Cond) ∈ gw := List.mem_filter.mpr ⟨List.mem_append_right _ (List.mem_append_right _ (List.mem_append_left _ (List.mem_of_getElem? (i := 73) rfl))), by rfl⟩
theorem jw9 : (.methodLink R_Js 1059 y_Jp_checkIndex : Cond) ∈ gw := List.mem_filter.mpr ⟨List.mem_append_right _ (List.mem_append_right _ (List.mem_append_left _ (List.mem_of_getElem? (i := 75) rfl))), by rfl⟩
theorem jw10 : (.code y_Jp_checkIndex b_Jp_checkIndex 3 (some .int) : Cond) ∈ gw := List.mem_filter.mpr ⟨List.mem_append_right _ (List.mem_append_right _ (List.mem_append_left _ (List.mem_of_getElem? (i := 77) rfl))), by rfl⟩
theorem jw11 : (.initialized R_Jp : Cond) ∈ gw := List.mem_filter.mpr ⟨List.mem_append_right _ (List.mem_append_left _ (List.mem_of_getElem? (i := 12) rfl)), by rfl⟩
theorem jw12 : (.static y_Jp_checkIndex : Cond) ∈ gw := List.mem_filter.mpr ⟨List.mem_append_right _ (List.mem_append_right _ (List.mem_append_left _ (List.mem_of_getElem? (i := 76) rfl))), by rfl⟩
theorem jw13 : (.methodLink R_Jl 9 y_Js_checkIndex : Cond) ∈ gw := List.mem_filter.mpr ⟨List.mem_append_right _ (List.mem_append_right _ (List.mem_append_left _ (List.mem_of_getElem? (i := 70) rfl))), by rfl⟩
theorem jw14 : (.code y_Js_checkIndex b_Js_checkIndex 2 none : Cond) ∈ gw := List.mem_filter.mpr ⟨List.mem_append_right _ (List.mem_append_right _ (List.mem_append_left _ (List.mem_of_getElem? (i := 72) rfl))), by rfl⟩
theorem jw15 : (.static y_Js_checkIndex : Cond) ∈ gw := List.mem_filter.mpr ⟨List.mem_append_right _ (List.mem_append_right _ (List.mem_append_left _ (List.mem_of_getElem? (i := 71) rfl))), by rfl⟩
theorem jw16 : (.methodLink R_Js 492 y_Js_isLatin1 : Cond) ∈ gw := List.mem_filter.mpr ⟨List.mem_append_right _ (List.mem_append_right _ (List.mem_append_left _ (List.mem_of_getElem? (i := 63) rfl))), by rfl⟩
theorem jw17 : (.code y_Js_isLatin1 b_Js_isLatin1 1 (some .boolean) : Cond) ∈ gw := List.mem_filter.mpr ⟨List.mem_append_right _ (List.mem_append_right _ (List.mem_append_left _ (List.mem_of_getElem? (i := 66) rfl))), by rfl⟩
theorem jw18 : (.instanceMethod y_Js_isLatin1 : Cond) ∈ gw := List.mem_filter.mpr ⟨List.mem_append_right _ (List.mem_append_right _ (List.mem_append_left _ (List.mem_of_getElem? (i := 64) rfl))), by rfl⟩
theorem jw19 : (.selects R_Js y_Js_isLatin1 y_Js_isLatin1 : Cond) ∈ gw := List.mem_filter.mpr ⟨List.mem_append_right _ (List.mem_append_right _ (List.mem_append_left _ (List.mem_of_getElem? (i := 65) rfl))), by rfl⟩
theorem jw20 : (.methodLink R_Js 495 y_Jl_charAt : Cond) ∈ gw := List.mem_filter.mpr ⟨List.mem_append_right _ (List.mem_append_right _ (List.mem_append_left _ (List.mem_of_getElem? (i := 67) rfl))), by rfl⟩
theorem jw21 : (.code y_Jl_charAt b_Jl_charAt 2 (some .char) : Cond) ∈ gw := List.mem_filter.mpr ⟨List.mem_append_right _ (List.mem_append_right _ (List.mem_append_left _ (List.mem_of_getElem? (i := 69) rfl))), by rfl⟩
theorem jw22 : (.initialized R_Jl : Cond) ∈ gw := List.mem_filter.mpr ⟨List.mem_append_right _ (List.mem_append_left _ (List.mem_of_getElem? (i := 11) rfl)), by rfl⟩
theorem jw23 : (.static y_Jl_charAt : Cond) ∈ gw := List.mem_filter.mpr ⟨List.mem_append_right _ (List.mem_append_right _ (List.mem_append_left _ (List.mem_of_getElem? (i := 68) rfl))), by rfl⟩
theorem jw24 : (.methodLink R_By 3 objectInit : Cond) ∈ gw := List.mem_filter.mpr ⟨List.mem_append_right _ (List.mem_append_left _ (List.mem_of_getElem? (i := 32) rfl)), by rfl⟩
theorem jw25 : (.instanceMethod objectInit : Cond) ∈ gw := List.mem_filter.mpr ⟨List.mem_append_right _ (List.mem_append_left _ (List.mem_of_getElem? (i := 25) rfl)), by rfl⟩
theorem jw26 : (.code objectInit object_method_1_code 1 none : Cond) ∈ gw := List.mem_filter.mpr ⟨List.mem_append_right _ (List.mem_append_left _ (List.mem_of_getElem? (i := 26) rfl)), by rfl⟩
theorem jw27 : (.arrayClass .byte : Cond) ∈ gw := List.mem_filter.mpr ⟨List.mem_append_right _ (List.mem_append_left _ (List.mem_of_getElem? (i := 46) rfl)), by rfl⟩
theorem jw28 : (.fieldLink R_By 9 "TermReader$Bytes" "row" "[B" : Cond) ∈ gw := List.mem_filter.mpr ⟨List.mem_append_right _ (List.mem_append_left _ (List.mem_of_getElem? (i := 33) rfl)), by rfl⟩
theorem jw29 : (.fieldLink R_By 15 "TermReader$Bytes" "length" "I" : Cond) ∈ gw := List.mem_filter.mpr ⟨List.mem_append_right _ (List.mem_append_left _ (List.mem_of_getElem? (i := 34) rfl)), by rfl⟩
theorem jw30 : (.fieldLink R_By 19 "TermReader$Bytes" "overrun" "Z" : Cond) ∈ gw := List.mem_filter.mpr ⟨List.mem_append_right _ (List.mem_append_left _ (List.mem_of_getElem? (i := 37) rfl)), by rfl⟩
theorem jw31 : (.methodLink R_By 23 y_By_put : Cond) ∈ gw := List.mem_filter.mpr ⟨List.mem_append_right _ (List.mem_append_left _ (List.mem_of_getElem? (i := 229) rfl)), by rfl⟩
theorem jw32 : (.code y_By_put b_By_put 2 none : Cond) ∈ gw := List.mem_filter.mpr ⟨List.mem_append_right _ (List.mem_append_left _ (List.mem_of_getElem? (i := 232) rfl)), by rfl⟩
theorem jw33 : (.initialized R_By : Cond) ∈ gw := List.mem_filter.mpr ⟨List.mem_append_right _ (List.mem_append_left _ (List.mem_of_getElem? (i := 2) rfl)), by rfl⟩
theorem jw34 : (.instanceMethod y_By_put : Cond) ∈ gw := List.mem_filter.mpr ⟨List.mem_append_right _ (List.mem_append_left _ (List.mem_of_getElem? (i := 230) rfl)), by rfl⟩
theorem jw35 : (.selects R_By y_By_put y_By_put : Cond) ∈ gw := List.mem_filter.mpr ⟨List.mem_append_right _ (List.mem_append_left _ (List.mem_of_getElem? (i := 231) rfl)), by rfl⟩
theorem jw36 : (.methodLink R_By 27 arraycopyName : Cond) ∈ gw := List.mem_filter.mpr ⟨List.mem_append_right _ (List.mem_append_right _ (List.mem_append_right _ (List.mem_append_right _ (List.mem_append_left _ (List.mem_of_getElem? (i := 6) rfl))))), by rfl⟩
theorem jw37 : (.native arraycopyName : Cond) ∈ gw := List.mem_filter.mpr ⟨List.mem_append_right _ (List.mem_append_right _ (List.mem_append_right _ (List.mem_append_right _ (List.mem_append_left _ (List.mem_of_getElem? (i := 8) rfl))))), by rfl⟩
theorem jw38 : (.static arraycopyName : Cond) ∈ gw := List.mem_filter.mpr ⟨List.mem_append_right _ (List.mem_append_right _ (List.mem_append_right _ (List.mem_append_right _ (List.mem_append_left _ (List.mem_of_getElem? (i := 7) rfl))))), by rfl⟩
theorem jw39 : (.initialized "java/lang/System" : Cond) ∈ gw := List.mem_filter.mpr ⟨List.mem_append_right _ (List.mem_append_left _ (List.mem_of_getElem? (i := 18) rfl)), by rfl⟩
theorem jw40 : (.methodLink R_Na 3 objectInit : Cond) ∈ gw := List.mem_filter.mpr ⟨List.mem_append_right _ (List.mem_append_left _ (List.mem_of_getElem? (i := 52) rfl)), by rfl⟩
theorem jw41 : (.fieldLink R_Na 11 "TermReader$Names" "spelling" "[B" : Cond) ∈ gw := List.mem_filter.mpr ⟨List.mem_append_right _ (List.mem_append_left _ (List.mem_of_getElem? (i := 53) rfl)), by rfl⟩
theorem jw42 : (.arrayClass .int : Cond) ∈ gw := List.mem_filter.mpr ⟨List.mem_append_right _ (List.mem_append_left _ (List.mem_of_getElem? (i := 70) rfl)), by rfl⟩
theorem jw43 : (.fieldLink R_Na 15 "TermReader$Names" "starts" "[I" : Cond) ∈ gw := List.mem_filter.mpr ⟨List.mem_append_right _ (List.mem_append_left _ (List.mem_of_getElem? (i := 54) rfl)), by rfl⟩
theorem jw44 : (.fieldLink R_Na 19 "TermReader$Names" "newest" "[I" : Cond) ∈ gw := List.mem_filter.mpr ⟨List.mem_append_right _ (List.mem_append_left _ (List.mem_of_getElem? (i := 55) rfl)), by rfl⟩
theorem jw45 : (.fieldLink R_Na 22 "TermReader$Names" "older" "[I" : Cond) ∈ gw := List.mem_filter.mpr ⟨List.mem_append_right _ (List.mem_append_left _ (List.mem_of_getElem? (i := 56) rfl)), by rfl⟩
theorem jw46 : (.fieldLink R_Na 25 "TermReader$Names" "count" "I" : Cond) ∈ gw := List.mem_filter.mpr ⟨List.mem_append_right _ (List.mem_append_left _ (List.mem_of_getElem? (i := 57) rfl)), by rfl⟩
theorem jw47 : (.methodLink R_Na 29 y_Na_lengthOf : Cond) ∈ gw := List.mem_filter.mpr ⟨List.mem_append_right _ (List.mem_append_right _ (List.mem_append_right _ (List.mem_append_left _ (List.mem_of_getElem? (i := 88) rfl)))), by rfl⟩
theorem jw48 : (.code y_Na_lengthOf b_Na_lengthOf 2 (some .int) : Cond) ∈ gw := List.mem_filter.mpr ⟨List.mem_append_right _ (List.mem_append_right _ (List.mem_append_right _ (List.mem_append_left _ (List.mem_of_getElem? (i := 91) rfl)))), by rfl⟩
theorem jw49 : (.initialized R_Na : Cond) ∈ gw := List.mem_filter.mpr ⟨List.mem_append_right _ (List.mem_append_left _ (List.mem_of_getElem? (i := 3) rfl)), by rfl⟩
theorem jw50 : (.instanceMethod y_Na_lengthOf : Cond) ∈ gw := List.mem_filter.mpr ⟨List.mem_append_right _ (List.mem_append_right _ (List.mem_append_right _ (List.mem_append_left _ (List.mem_of_getElem? (i := 89) rfl)))), by rfl⟩
theorem jw51 : (.selects R_Na y_Na_lengthOf y_Na_lengthOf : Cond) ∈ gw := List.mem_filter.mpr ⟨List.mem_append_right _ (List.mem_append_right _ (List.mem_append_right _ (List.mem_append_left _ (List.mem_of_getElem? (i := 90) rfl)))), by rfl⟩
theorem jw52 : (.methodLink R_Na 45 y_By_at : Cond) ∈ gw := List.mem_filter.mpr ⟨List.mem_append_right _ (List.mem_append_right _ (List.mem_append_right _ (List.mem_append_left _ (List.mem_of_getElem? (i := 83) rfl)))), by rfl⟩
theorem jw53 : (.code y_By_at b_By_at 2 (some .int) : Cond) ∈ gw := List.mem_filter.mpr ⟨List.mem_append_right _ (List.mem_append_right _ (List.mem_append_left _ (List.mem_of_getElem? (i := 18) rfl))), by rfl⟩
theorem jw54 : (.instanceMethod y_By_at : Cond) ∈ gw := List.mem_filter.mpr ⟨List.mem_append_right _ (List.mem_append_right _ (List.mem_append_left _ (List.mem_of_getElem? (i := 16) rfl))), by rfl⟩
theorem jw55 : (.selects R_By y_By_at y_By_at : Cond) ∈ gw := List.mem_filter.mpr ⟨List.mem_append_right _ (List.mem_append_right _ (List.mem_append_left _ (List.mem_of_getElem? (i := 17) rfl))), by rfl⟩
theorem jw56 : (.methodLink R_Na 50 y_Na_byteOf : Cond) ∈ gw := List.mem_filter.mpr ⟨List.mem_append_right _ (List.mem_append_right _ (List.mem_append_right _ (List.mem_append_left _ (List.mem_of_getElem? (i := 92) rfl)))), by rfl⟩
theorem jw57 : (.code y_Na_byteOf b_Na_byteOf 3 (some .int) : Cond) ∈ gw := List.mem_filter.mpr ⟨List.mem_append_right _ (List.mem_append_right _ (List.mem_append_right _ (List.mem_append_left _ (List.mem_of_getElem? (i := 95) rfl)))), by rfl⟩
theorem jw58 : (.instanceMethod y_Na_byteOf : Cond) ∈ gw := List.mem_filter.mpr ⟨List.mem_append_right _ (List.mem_append_right _ (List.mem_append_right _ (List.mem_append_left _ (List.mem_of_getElem? (i := 93) rfl)))), by rfl⟩
theorem jw59 : (.selects R_Na y_Na_byteOf y_Na_byteOf : Cond) ∈ gw := List.mem_filter.mpr ⟨List.mem_append_right _ (List.mem_append_right _ (List.mem_append_right _ (List.mem_append_left _ (List.mem_of_getElem? (i := 94) rfl)))), by rfl⟩
theorem jw60 : (.methodLink R_Na 33 y_Na_bucketOf : Cond) ∈ gw := List.mem_filter.mpr ⟨List.mem_append_right _ (List.mem_append_right _ (List.mem_append_right _ (List.mem_append_left _ (List.mem_of_getElem? (i := 80) rfl)))), by rfl⟩
theorem jw61 : (.code y_Na_bucketOf b_Na_bucketOf 5 (some .int) : Cond) ∈ gw := List.mem_filter.mpr ⟨List.mem_append_right _ (List.mem_append_right _ (List.mem_append_right _ (List.mem_append_left _ (List.mem_of_getElem? (i := 82) rfl)))), by rfl⟩
theorem jw62 : (.static y_Na_bucketOf : Cond) ∈ gw := List.mem_filter.mpr ⟨List.mem_append_right _ (List.mem_append_right _ (List.mem_append_right _ (List.mem_append_left _ (List.mem_of_getElem? (i := 81) rfl)))), by rfl⟩
theorem jw63 : (.methodLink R_Na 37 y_Na_isSpelt : Cond) ∈ gw := List.mem_filter.mpr ⟨List.mem_append_right _ (List.mem_append_right _ (List.mem_append_right _ (List.mem_append_left _ (List.mem_of_getElem? (i := 84) rfl)))), by rfl⟩
theorem jw64 : (.code y_Na_isSpelt b_Na_isSpelt 6 (some .boolean) : Cond) ∈ gw := List.mem_filter.mpr ⟨List.mem_append_right _ (List.mem_append_right _ (List.mem_append_right _ (List.mem_append_left _ (List.mem_of_getElem? (i := 87) rfl)))), by rfl⟩
theorem jw65 : (.instanceMethod y_Na_isSpelt : Cond) ∈ gw := List.mem_filter.mpr ⟨List.mem_append_right _ (List.mem_append_right _ (List.mem_append_right _ (List.mem_append_left _ (List.mem_of_getElem? (i := 86) rfl)))), by rfl⟩
theorem jw66 : (.selects R_Na y_Na_isSpelt y_Na_isSpelt : Cond) ∈ gw := List.mem_filter.mpr ⟨List.mem_append_left _ (by decide +kernel), by rfl⟩
theorem jw67 : (.methodLink R_Na 41 y_Na_addName : Cond) ∈ gw := List.mem_filter.mpr ⟨List.mem_append_right _ (List.mem_append_right _ (List.mem_append_right _ (List.mem_append_left _ (List.mem_of_getElem? (i := 96) rfl)))), by rfl⟩
theorem jw68 : (.code y_Na_addName b_Na_addName 7 (some .int) : Cond) ∈ gw := List.mem_filter.mpr ⟨List.mem_append_right _ (List.mem_append_right _ (List.mem_append_right _ (List.mem_append_left _ (List.mem_of_getElem? (i := 99) rfl)))), by rfl⟩
theorem jw69 : (.instanceMethod y_Na_addName : Cond) ∈ gw := List.mem_filter.mpr ⟨List.mem_append_right _ (List.mem_append_right _ (List.mem_append_right _ (List.mem_append_left _ (List.mem_of_getElem? (i := 98) rfl)))), by rfl⟩
theorem jw70 : (.selects R_Na y_Na_addName y_Na_addName : Cond) ∈ gw := List.mem_filter.mpr ⟨List.mem_append_left _ (by decide +kernel), by rfl⟩
theorem jw71 : (.methodLink R_Tk 3 objectInit : Cond) ∈ gw := List.mem_filter.mpr ⟨List.mem_append_right _ (List.mem_append_left _ (List.mem_of_getElem? (i := 111) rfl)), by rfl⟩
theorem jw72 : (.fieldLink R_Tk 9 "TermReader$Tokens" "kinds" "[I" : Cond) ∈ gw := List.mem_filter.mpr ⟨List.mem_append_right _ (List.mem_append_left _ (List.mem_of_getElem? (i := 112) rfl)), by rfl⟩
theorem jw73 : (.fieldLink R_Tk 15 "TermReader$Tokens" "places" "[I" : Cond) ∈ gw := List.mem_filter.mpr ⟨List.mem_append_right _ (List.mem_append_left _ (List.mem_of_getElem? (i := 113) rfl)), by rfl⟩
theorem jw74 : (.fieldLink R_Tk 18 "TermReader$Tokens" "values" "[I" : Cond) ∈ gw := List.mem_filter.mpr ⟨List.mem_append_right _ (List.mem_append_left _ (List.mem_of_getElem? (i := 114) rfl)), by rfl⟩
theorem jw75 : (.fieldLink R_Tk 21 "TermReader$Tokens" "count" "I" : Cond) ∈ gw := List.mem_filter.mpr ⟨List.mem_append_right _ (List.mem_append_left _ (List.mem_of_getElem? (i := 115) rfl)), by rfl⟩
theorem jw76 : (.fieldLink R_Tk 25 "TermReader$Tokens" "next" "I" : Cond) ∈ gw := List.mem_filter.mpr ⟨List.mem_append_right _ (List.mem_append_left _ (List.mem_of_getElem? (i := 116) rfl)), by rfl⟩
theorem jw77 : (.methodLink R_Tk 40 y_Tk_isLetter : Cond) ∈ gw := List.mem_filter.mpr ⟨List.mem_append_right _ (List.mem_append_right _ (List.mem_append_left _ (List.mem_of_getElem? (i := 25) rfl))), by rfl⟩
theorem jw78 : (.code y_Tk_isLetter b_Tk_isLetter 1 (some .boolean) : Cond) ∈ gw := List.mem_filter.mpr ⟨List.mem_append_right _ (List.mem_append_right _ (List.mem_append_left _ (List.mem_of_getElem? (i := 27) rfl))), by rfl⟩
theorem jw79 : (.initialized R_Tk : Cond) ∈ gw := List.mem_filter.mpr ⟨List.mem_append_right _ (List.mem_append_left _ (List.mem_of_getElem? (i := 6) rfl)), by rfl⟩
theorem jw80 : (.static y_Tk_isLetter : Cond) ∈ gw := List.mem_filter.mpr ⟨List.mem_append_right _ (List.mem_append_right _ (List.mem_append_left _ (List.mem_of_getElem? (i := 26) rfl))), by rfl⟩
theorem jw81 : (.methodLink R_Tk 102 y_Tk_isDigit : Cond) ∈ gw := List.mem_filter.mpr ⟨List.mem_append_right _ (List.mem_append_right _ (List.mem_append_left _ (List.mem_of_getElem? (i := 35) rfl))), by rfl⟩
theorem jw82 : (.code y_Tk_isDigit b_Tk_isDigit 1 (some .boolean) : Cond) ∈ gw := List.mem_filter.mpr ⟨List.mem_append_right _ (List.mem_append_right _ (List.mem_append_left _ (List.mem_of_getElem? (i := 37) rfl))), by rfl⟩
theorem jw83 : (.static y_Tk_isDigit : Cond) ∈ gw := List.mem_filter.mpr ⟨List.mem_append_right _ (List.mem_append_right _ (List.mem_append_left _ (List.mem_of_getElem? (i := 36) rfl))), by rfl⟩
theorem jw84 : (.methodLink R_Tk 34 y_By_at : Cond) ∈ gw := List.mem_filter.mpr ⟨List.mem_append_right _ (List.mem_append_right _ (List.mem_append_left _ (List.mem_of_getElem? (i := 15) rfl))), by rfl⟩
theorem jw85 : (.methodLink R_Tk 71 y_Js_length : Cond) ∈ gw := List.mem_filter.mpr ⟨List.mem_append_right _ (List.mem_append_right _ (List.mem_append_left _ (List.mem_of_getElem? (i := 49) rfl))), by rfl⟩
theorem jw86 : (.code y_Js_length b_Js_length 1 (some .int) : Cond) ∈ gw := List.mem_filter.mpr ⟨List.mem_append_right _ (List.mem_append_right _ (List.mem_append_left _ (List.mem_of_getElem? (i := 52) rfl))), by rfl⟩
theorem jw87 : (.instanceMethod y_Js_length : Cond) ∈ gw := List.mem_filter.mpr ⟨List.mem_append_right _ (List.mem_append_right _ (List.mem_append_left _ (List.mem_of_getElem? (i := 50) rfl))), by rfl⟩
theorem jw88 : (.selects R_Js y_Js_length y_Js_length : Cond) ∈ gw := List.mem_filter.mpr ⟨List.mem_append_right _ (List.mem_append_right _ (List.mem_append_left _ (List.mem_of_getElem? (i := 51) rfl))), by rfl⟩
theorem jw89 : (.methodLink R_Tk 98 y_Js_charAt : Cond) ∈ gw := List.mem_filter.mpr ⟨List.mem_append_right _ (List.mem_append_right _ (List.mem_append_left _ (List.mem_of_getElem? (i := 59) rfl))), by rfl⟩
theorem jw90 : (.code y_Js_charAt b_Js_charAt 2 (some .char) : Cond) ∈ gw := List.mem_filter.mpr ⟨List.mem_append_right _ (List.mem_append_right _ (List.mem_append_left _ (List.mem_of_getElem? (i := 62) rfl))), by rfl⟩
theorem jw91 : (.instanceMethod y_Js_charAt : Cond) ∈ gw := List.mem_filter.mpr ⟨List.mem_append_right _ (List.mem_append_right _ (List.mem_append_left _ (List.mem_of_getElem? (i := 60) rfl))), by rfl⟩
theorem jw92 : (.selects R_Js y_Js_charAt y_Js_charAt : Cond) ∈ gw := List.mem_filter.mpr ⟨List.mem_append_right _ (List.mem_append_right _ (List.mem_append_left _ (List.mem_of_getElem? (i := 61) rfl))), by rfl⟩
theorem jw93 : (.methodLink R_Tk 86 y_Tk_isWord : Cond) ∈ gw := List.mem_filter.mpr ⟨List.mem_append_right _ (List.mem_append_right _ (List.mem_append_left _ (List.mem_of_getElem? (i := 46) rfl))), by rfl⟩
theorem jw94 : (.code y_Tk_isWord b_Tk_isWord 5 (some .boolean) : Cond) ∈ gw := List.mem_filter.mpr ⟨List.mem_append_right _ (List.mem_append_right _ (List.mem_append_left _ (List.mem_of_getElem? (i := 48) rfl))), by rfl⟩
theorem jw95 : (.static y_Tk_isWord : Cond) ∈ gw := List.mem_filter.mpr ⟨List.mem_append_right _ (List.mem_append_right _ (List.mem_append_left _ (List.mem_of_getElem? (i := 47) rfl))), by rfl⟩
theorem jw96 : (.methodLink R_Tk 94 y_Tk_digitAt : Cond) ∈ gw := List.mem_filter.mpr ⟨List.mem_append_right _ (List.mem_append_right _ (List.mem_append_left _ (List.mem_of_getElem? (i := 98) rfl))), by rfl⟩
theorem jw97 : (.code y_Tk_digitAt b_Tk_digitAt 3 (some .int) : Cond) ∈ gw := List.mem_filter.mpr ⟨List.mem_append_right _ (List.mem_append_right _ (List.mem_append_left _ (List.mem_of_getElem? (i := 100) rfl))), by rfl⟩
theorem jw98 : (.static y_Tk_digitAt : Cond) ∈ gw := List.mem_filter.mpr ⟨List.mem_append_right _ (List.mem_append_right _ (List.mem_append_left _ (List.mem_of_getElem? (i := 99) rfl))), by rfl⟩
theorem jw99 : (.methodLink R_Tk 67 y_To_spelling : Cond) ∈ gw := List.mem_filter.mpr ⟨List.mem_append_right _ (List.mem_append_right _ (List.mem_append_left _ (List.mem_of_getElem? (i := 104) rfl))), by rfl⟩
theorem jw100 : (.code y_To_spelling b_To_spelling 1 (some (.object "java/lang/String")) : Cond) ∈ gw := List.mem_filter.mpr ⟨List.mem_append_right _ (List.mem_append_right _ (List.mem_append_left _ (List.mem_of_getElem? (i := 106) rfl))), by rfl⟩
theorem jw101 : (.initialized R_To : Cond) ∈ gw := List.mem_filter.mpr ⟨List.mem_append_right _ (List.mem_append_left _ (List.mem_of_getElem? (i := 14) rfl)), by rfl⟩
theorem jw102 : (.static y_To_spelling : Cond) ∈ gw := List.mem_filter.mpr ⟨List.mem_append_right _ (List.mem_append_right _ (List.mem_append_left _ (List.mem_of_getElem? (i := 105) rfl))), by rfl⟩
theorem jw103 : (.methodLink R_Tk 77 y_Tk_isInName : Cond) ∈ gw := List.mem_filter.mpr ⟨List.mem_append_right _ (List.mem_append_right _ (List.mem_append_left _ (List.mem_of_getElem? (i := 32) rfl))), by rfl⟩
theorem jw104 : (.code y_Tk_isInName b_Tk_isInName 1 (some .boolean) : Cond) ∈ gw := List.mem_filter.mpr ⟨List.mem_append_right _ (List.mem_append_right _ (List.mem_append_left _ (List.mem_of_getElem? (i := 34) rfl))), by rfl⟩
theorem jw105 : (.static y_Tk_isInName : Cond) ∈ gw := List.mem_filter.mpr ⟨List.mem_append_right _ (List.mem_append_right _ (List.mem_append_left _ (List.mem_of_getElem? (i := 33) rfl))), by rfl⟩
theorem jw106 : (.methodLink R_Tk 80 y_Tk_sortAt : Cond) ∈ gw := List.mem_filter.mpr ⟨List.mem_append_right _ (List.mem_append_right _ (List.mem_append_left _ (List.mem_of_getElem? (i := 42) rfl))), by rfl⟩
theorem jw107 : (.code y_Tk_sortAt b_Tk_sortAt 5 (some .int) : Cond) ∈ gw := List.mem_filter.mpr ⟨List.mem_append_right _ (List.mem_append_right _ (List.mem_append_left _ (List.mem_of_getElem? (i := 44) rfl))), by rfl⟩
theorem jw108 : (.static y_Tk_sortAt : Cond) ∈ gw := List.mem_filter.mpr ⟨List.mem_append_right _ (List.mem_append_right _ (List.mem_append_left _ (List.mem_of_getElem? (i := 43) rfl))), by rfl⟩
theorem jw109 : (.methodLink R_Tk 83 y_Tk_wordAt : Cond) ∈ gw := List.mem_filter.mpr ⟨List.mem_append_right _ (List.mem_append_right _ (List.mem_append_left _ (List.mem_of_getElem? (i := 101) rfl))), by rfl⟩
theorem jw110 : (.code y_Tk_wordAt b_Tk_wordAt 4 (some .int) : Cond) ∈ gw := List.mem_filter.mpr ⟨List.mem_append_right _ (List.mem_append_right _ (List.mem_append_left _ (List.mem_of_getElem? (i := 103) rfl))), by rfl⟩
theorem jw111 : (.static y_Tk_wordAt : Cond) ∈ gw := List.mem_filter.mpr ⟨List.mem_append_right _ (List.mem_append_right _ (List.mem_append_left _ (List.mem_of_getElem? (i := 102) rfl))), by rfl⟩
theorem jw112 : (.methodLink R_Tk 59 y_Tk_addToken : Cond) ∈ gw := List.mem_filter.mpr ⟨List.mem_append_right _ (List.mem_append_right _ (List.mem_append_left _ (List.mem_of_getElem? (i := 38) rfl))), by rfl⟩
theorem jw113 : (.code y_Tk_addToken b_Tk_addToken 5 (some .int) : Cond) ∈ gw := List.mem_filter.mpr ⟨List.mem_append_right _ (List.mem_append_right _ (List.mem_append_left _ (List.mem_of_getElem? (i := 41) rfl))), by rfl⟩
theorem jw114 : (.instanceMethod y_Tk_addToken : Cond) ∈ gw := List.mem_filter.mpr ⟨List.mem_append_right _ (List.mem_append_right _ (List.mem_append_left _ (List.mem_of_getElem? (i := 40) rfl))), by rfl⟩
theorem jw115 : (.selects R_Tk y_Tk_addToken y_Tk_addToken : Cond) ∈ gw := List.mem_filter.mpr ⟨List.mem_append_left _ (by decide +kernel), by rfl⟩
theorem jw116 : (.methodLink R_Tk 63 y_To_signOf : Cond) ∈ gw := List.mem_filter.mpr ⟨List.mem_append_right _ (List.mem_append_right _ (List.mem_append_left _ (List.mem_of_getElem? (i := 132) rfl))), by rfl⟩
theorem jw117 : (.code y_To_signOf b_To_signOf 2 (some .int) : Cond) ∈ gw := List.mem_filter.mpr ⟨List.mem_append_right _ (List.mem_append_right _ (List.mem_append_left _ (List.mem_of_getElem? (i := 134) rfl))), by rfl⟩
theorem jw118 : (.static y_To_signOf : Cond) ∈ gw := List.mem_filter.mpr ⟨List.mem_append_right _ (List.mem_append_right _ (List.mem_append_left _ (List.mem_of_getElem? (i := 133) rfl))), by rfl⟩
theorem jw119 : (.methodLink R_Tk 53 y_Tk_behindLine : Cond) ∈ gw := List.mem_filter.mpr ⟨List.mem_append_right _ (List.mem_append_right _ (List.mem_append_left _ (List.mem_of_getElem? (i := 19) rfl))), by rfl⟩
theorem jw120 : (.code y_Tk_behindLine b_Tk_behindLine 4 (some .int) : Cond) ∈ gw := List.mem_filter.mpr ⟨List.mem_append_right _ (List.mem_append_right _ (List.mem_append_left _ (List.mem_of_getElem? (i := 21) rfl))), by rfl⟩
theorem jw121 : (.static y_Tk_behindLine : Cond) ∈ gw := List.mem_filter.mpr ⟨List.mem_append_right _ (List.mem_append_right _ (List.mem_append_left _ (List.mem_of_getElem? (i := 20) rfl))), by rfl⟩
theorem jw122 : (.methodLink R_Tk 56 y_Tk_behindRemark : Cond) ∈ gw := List.mem_filter.mpr ⟨List.mem_append_right _ (List.mem_append_right _ (List.mem_append_left _ (List.mem_of_getElem? (i := 22) rfl))), by rfl⟩
theorem jw123 : (.code y_Tk_behindRemark b_Tk_behindRemark 9 (some .int) : Cond) ∈ gw := List.mem_filter.mpr ⟨List.mem_append_right _ (List.mem_append_right _ (List.mem_append_left _ (List.mem_of_getElem? (i := 24) rfl))), by rfl⟩
theorem jw124 : (.static y_Tk_behindRemark : Cond) ∈ gw := List.mem_filter.mpr ⟨List.mem_append_right _ (List.mem_append_right _ (List.mem_append_left _ (List.mem_of_getElem? (i := 23) rfl))), by rfl⟩
theorem jw125 : (.methodLink R_Tk 50 y_Tk_behindBlank : Cond) ∈ gw := List.mem_filter.mpr ⟨List.mem_append_right _ (List.mem_append_right _ (List.mem_append_left _ (List.mem_of_getElem? (i := 12) rfl))), by rfl⟩
theorem jw126 : (.code y_Tk_behindBlank b_Tk_behindBlank 5 (some .int) : Cond) ∈ gw := List.mem_filter.mpr ⟨List.mem_append_right _ (List.mem_append_right _ (List.mem_append_left _ (List.mem_of_getElem? (i := 14) rfl))), by rfl⟩
theorem jw127 : (.static y_Tk_behindBlank : Cond) ∈ gw := List.mem_filter.mpr ⟨List.mem_append_right _ (List.mem_append_right _ (List.mem_append_left _ (List.mem_of_getElem? (i := 13) rfl))), by rfl⟩
theorem jw128 : (.methodLink R_Tk 30 y_Tk_behindBlanks : Cond) ∈ gw := List.mem_filter.mpr ⟨List.mem_append_right _ (List.mem_append_right _ (List.mem_append_left _ (List.mem_of_getElem? (i := 9) rfl))), by rfl⟩
theorem jw129 : (.code y_Tk_behindBlanks b_Tk_behindBlanks 6 (some .int) : Cond) ∈ gw := List.mem_filter.mpr ⟨List.mem_append_right _ (List.mem_append_right _ (List.mem_append_left _ (List.mem_of_getElem? (i := 11) rfl))), by rfl⟩
theorem jw130 : (.static y_Tk_behindBlanks : Cond) ∈ gw := List.mem_filter.mpr ⟨List.mem_append_right _ (List.mem_append_right _ (List.mem_append_left _ (List.mem_of_getElem? (i := 10) rfl))), by rfl⟩
theorem jw131 : (.methodLink R_Tk 47 y_Tk_scanSign : Cond) ∈ gw := List.mem_filter.mpr ⟨List.mem_append_right _ (List.mem_append_right _ (List.mem_append_left _ (List.mem_of_getElem? (i := 128) rfl))), by rfl⟩
theorem jw132 : (.code y_Tk_scanSign b_Tk_scanSign 5 (some .int) : Cond) ∈ gw := List.mem_filter.mpr ⟨List.mem_append_right _ (List.mem_append_right _ (List.mem_append_left _ (List.mem_of_getElem? (i := 131) rfl))), by rfl⟩
theorem jw133 : (.instanceMethod y_Tk_scanSign : Cond) ∈ gw := List.mem_filter.mpr ⟨List.mem_append_right _ (List.mem_append_right _ (List.mem_append_left _ (List.mem_of_getElem? (i := 130) rfl))), by rfl⟩
theorem jw134 : (.selects R_Tk y_Tk_scanSign y_Tk_scanSign : Cond) ∈ gw := List.mem_filter.mpr ⟨List.mem_append_left _ (by decide +kernel), by rfl⟩
theorem jw135 : (.methodLink R_Tk 44 y_Tk_scanWord : Cond) ∈ gw := List.mem_filter.mpr ⟨List.mem_append_right _ (List.mem_append_right _ (List.mem_append_left _ (List.mem_of_getElem? (i := 28) rfl))), by rfl⟩
theorem jw136 : (.code y_Tk_scanWord b_Tk_scanWord 7 (some .int) : Cond) ∈ gw := List.mem_filter.mpr ⟨List.mem_append_right _ (List.mem_append_right _ (List.mem_append_left _ (List.mem_of_getElem? (i := 31) rfl))), by rfl⟩
theorem jw137 : (.instanceMethod y_Tk_scanWord : Cond) ∈ gw := List.mem_filter.mpr ⟨List.mem_append_right _ (List.mem_append_right _ (List.mem_append_left _ (List.mem_of_getElem? (i := 30) rfl))), by rfl⟩
theorem jw138 : (.selects R_Tk y_Tk_scanWord y_Tk_scanWord : Cond) ∈ gw := List.mem_filter.mpr ⟨List.mem_append_left _ (by decide +kernel), by rfl⟩
theorem jw139 : (.methodLink R_Tr 3 objectInit : Cond) ∈ gw := List.mem_filter.mpr ⟨List.mem_append_right _ (List.mem_append_left _ (List.mem_of_getElem? (i := 76) rfl)), by rfl⟩
theorem jw140 : (.fieldLink R_Tr 9 "TermReader$Tree" "kinds" "[I" : Cond) ∈ gw := List.mem_filter.mpr ⟨List.mem_append_right _ (List.mem_append_left _ (List.mem_of_getElem? (i := 77) rfl)), by rfl⟩
theorem jw141 : (.fieldLink R_Tr 15 "TermReader$Tree" "places" "[I" : Cond) ∈ gw := List.mem_filter.mpr ⟨List.mem_append_right _ (List.mem_append_left _ (List.mem_of_getElem? (i := 78) rfl)), by rfl⟩
theorem jw142 : (.fieldLink R_Tr 18 "TermReader$Tree" "values" "[I" : Cond) ∈ gw := List.mem_filter.mpr ⟨List.mem_append_right _ (List.mem_append_left _ (List.mem_of_getElem? (i := 79) rfl)), by rfl⟩
theorem jw143 : (.fieldLink R_Tr 21 "TermReader$Tree" "sizes" "[I" : Cond) ∈ gw := List.mem_filter.mpr ⟨List.mem_append_right _ (List.mem_append_left _ (List.mem_of_getElem? (i := 80) rfl)), by rfl⟩
theorem jw144 : (.fieldLink R_Tr 24 "TermReader$Tree" "partCounts" "[I" : Cond) ∈ gw := List.mem_filter.mpr ⟨List.mem_append_right _ (List.mem_append_left _ (List.mem_of_getElem? (i := 81) rfl)), by rfl⟩
theorem jw145 : (.fieldLink R_Tr 27 "TermReader$Tree" "wholes" "[I" : Cond) ∈ gw := List.mem_filter.mpr ⟨List.mem_append_right _ (List.mem_append_left _ (List.mem_of_getElem? (i := 82) rfl)), by rfl⟩
theorem jw146 : (.fieldLink R_Tr 32 "TermReader$Tree" "count" "I" : Cond) ∈ gw := List.mem_filter.mpr ⟨List.mem_append_right _ (List.mem_append_left _ (List.mem_of_getElem? (i := 83) rfl)), by rfl⟩
theorem jw147 : (.methodLink R_Tr 36 Lib.Math.min.name : Cond) ∈ gw := List.mem_filter.mpr ⟨List.mem_append_right _ (List.mem_append_right _ (List.mem_append_right _ (List.mem_append_left _ (List.mem_of_getElem? (i := 53) rfl)))), by rfl⟩
theorem jw148 : (.static Lib.Math.min.name : Cond) ∈ gw := List.mem_filter.mpr ⟨List.mem_append_right _ (List.mem_append_right _ (List.mem_append_right _ (List.mem_append_left _ (List.mem_of_getElem? (i := 54) rfl)))), by rfl⟩
theorem jw149 : (.initialized "java/lang/Math" : Cond) ∈ gw := List.mem_filter.mpr ⟨List.mem_append_right _ (List.mem_append_left _ (List.mem_of_getElem? (i := 16) rfl)), by rfl⟩
theorem jw150 : (.code Lib.Math.min.name prog_14_method_69_code 2 (some .int) : Cond) ∈ gw := List.mem_filter.mpr ⟨List.mem_append_right _ (List.mem_append_right _ (List.mem_append_right _ (List.mem_append_left _ (List.mem_of_getElem? (i := 55) rfl)))), by rfl⟩
theorem jw151 : (.methodLink R_Tr 42 y_Tr_has : Cond) ∈ gw := List.mem_filter.mpr ⟨List.mem_append_right _ (List.mem_append_right _ (List.mem_append_right _ (List.mem_append_left _ (List.mem_of_getElem? (i := 60) rfl)))), by rfl⟩
theorem jw152 : (.code y_Tr_has b_Tr_has 2 (some .boolean) : Cond) ∈ gw := List.mem_filter.mpr ⟨List.mem_append_right _ (List.mem_append_right _ (List.mem_append_right _ (List.mem_append_left _ (List.mem_of_getElem? (i := 63) rfl)))), by rfl⟩
theorem jw153 : (.initialized R_Tr : Cond) ∈ gw := List.mem_filter.mpr ⟨List.mem_append_right _ (List.mem_append_left _ (List.mem_of_getElem? (i := 4) rfl)), by rfl⟩
theorem jw154 : (.instanceMethod y_Tr_has : Cond) ∈ gw := List.mem_filter.mpr ⟨List.mem_append_right _ (List.mem_append_right _ (List.mem_append_right _ (List.mem_append_left _ (List.mem_of_getElem? (i := 61) rfl)))), by rfl⟩
theorem jw155 : (.selects R_Tr y_Tr_has y_Tr_has : Cond) ∈ gw := List.mem_filter.mpr ⟨List.mem_append_right _ (List.mem_append_right _ (List.mem_append_right _ (List.mem_append_left _ (List.mem_of_getElem? (i := 62) rfl)))), by rfl⟩
theorem jw156 : (.methodLink R_Tr 46 y_Tr_wholeOf : Cond) ∈ gw := List.mem_filter.mpr ⟨List.mem_append_right _ (List.mem_append_right _ (List.mem_append_right _ (List.mem_append_left _ (List.mem_of_getElem? (i := 182) rfl)))), by rfl⟩
theorem jw157 : (.code y_Tr_wholeOf b_Tr_wholeOf 2 (some .int) : Cond) ∈ gw := List.mem_filter.mpr ⟨List.mem_append_right _ (List.mem_append_right _ (List.mem_append_right _ (List.mem_append_left _ (List.mem_of_getElem? (i := 135) rfl)))), by rfl⟩
theorem jw158 : (.instanceMethod y_Tr_wholeOf : Cond) ∈ gw := List.mem_filter.mpr ⟨List.mem_append_right _ (List.mem_append_right _ (List.mem_append_right _ (List.mem_append_left _ (List.mem_of_getElem? (i := 133) rfl)))), by rfl⟩
theorem jw159 : (.selects R_Tr y_Tr_wholeOf y_Tr_wholeOf : Cond) ∈ gw := List.mem_filter.mpr ⟨List.mem_append_right _ (List.mem_append_right _ (List.mem_append_right _ (List.mem_append_left _ (List.mem_of_getElem? (i := 134) rfl)))), by rfl⟩
theorem jw160 : (.methodLink R_Tr 50 y_Na_numberOf : Cond) ∈ gw := List.mem_filter.mpr ⟨List.mem_append_right _ (List.mem_append_right _ (List.mem_append_right _ (List.mem_append_left _ (List.mem_of_getElem? (i := 76) rfl)))), by rfl⟩
theorem jw161 : (.code y_Na_numberOf b_Na_numberOf 7 (some .int) : Cond) ∈ gw := List.mem_filter.mpr ⟨List.mem_append_right _ (List.mem_append_right _ (List.mem_append_right _ (List.mem_append_left _ (List.mem_of_getElem? (i := 79) rfl)))), by rfl⟩
theorem jw162 : (.instanceMethod y_Na_numberOf : Cond) ∈ gw := List.mem_filter.mpr ⟨List.mem_append_right _ (List.mem_append_right _ (List.mem_append_right _ (List.mem_append_left _ (List.mem_of_getElem? (i := 77) rfl)))), by rfl⟩
theorem jw163 : (.selects R_Na y_Na_numberOf y_Na_numberOf : Cond) ∈ gw := List.mem_filter.mpr ⟨List.mem_append_right _ (List.mem_append_right _ (List.mem_append_right _ (List.mem_append_left _ (List.mem_of_getElem? (i := 78) rfl)))), by rfl⟩
theorem jw164 : (.methodLink R_Gr 3 objectInit : Cond) ∈ gw := List.mem_filter.mpr ⟨List.mem_append_right _ (List.mem_append_left _ (List.mem_of_getElem? (i := 133) rfl)), by rfl⟩
theorem jw165 : (.fieldLink R_Gr 9 "TermReader$Growth" "kinds" "[I" : Cond) ∈ gw := List.mem_filter.mpr ⟨List.mem_append_right _ (List.mem_append_left _ (List.mem_of_getElem? (i := 134) rfl)), by rfl⟩
theorem jw166 : (.fieldLink R_Gr 15 "TermReader$Growth" "places" "[I" : Cond) ∈ gw := List.mem_filter.mpr ⟨List.mem_append_right _ (List.mem_append_left _ (List.mem_of_getElem? (i := 135) rfl)), by rfl⟩
theorem jw167 : (.fieldLink R_Gr 18 "TermReader$Growth" "values" "[I" : Cond) ∈ gw := List.mem_filter.mpr ⟨List.mem_append_right _ (List.mem_append_left _ (List.mem_of_getElem? (i := 136) rfl)), by rfl⟩
theorem jw168 : (.fieldLink R_Gr 21 "TermReader$Growth" "sizes" "[I" : Cond) ∈ gw := List.mem_filter.mpr ⟨List.mem_append_right _ (List.mem_append_left _ (List.mem_of_getElem? (i := 137) rfl)), by rfl⟩
theorem jw169 : (.fieldLink R_Gr 24 "TermReader$Growth" "partCounts" "[I" : Cond) ∈ gw := List.mem_filter.mpr ⟨List.mem_append_right _ (List.mem_append_left _ (List.mem_of_getElem? (i := 138) rfl)), by rfl⟩
theorem jw170 : (.fieldLink R_Gr 27 "TermReader$Growth" "numbers" "[I" : Cond) ∈ gw := List.mem_filter.mpr ⟨List.mem_append_right _ (List.mem_append_left _ (List.mem_of_getElem? (i := 139) rfl)), by rfl⟩
theorem jw171 : (.fieldLink R_Gr 30 "TermReader$Growth" "count" "I" : Cond) ∈ gw := List.mem_filter.mpr ⟨List.mem_append_right _ (List.mem_append_left _ (List.mem_of_getElem? (i := 140) rfl)), by rfl⟩
theorem jw172 : (.methodLink R_Gr 34 Lib.Math.max.name : Cond) ∈ gw := List.mem_filter.mpr ⟨List.mem_append_right _ (List.mem_append_right _ (List.mem_append_left _ (List.mem_of_getElem? (i := 188) rfl))), by rfl⟩
theorem jw173 : (.static Lib.Math.max.name : Cond) ∈ gw := List.mem_filter.mpr ⟨List.mem_append_right _ (List.mem_append_right _ (List.mem_append_left _ (List.mem_of_getElem? (i := 189) rfl))), by rfl⟩
theorem jw174 : (.code Lib.Math.max.name prog_14_method_65_code 2 (some .int) : Cond) ∈ gw := List.mem_filter.mpr ⟨List.mem_append_right _ (List.mem_append_right _ (List.mem_append_left _ (List.mem_of_getElem? (i := 190) rfl))), by rfl⟩
theorem jw175 : (.methodLink R_Gr 40 y_Gr_add : Cond) ∈ gw := List.mem_filter.mpr ⟨List.mem_append_right _ (List.mem_append_right _ (List.mem_append_right _ (List.mem_append_left _ (List.mem_of_getElem? (i := 36) rfl)))), by rfl⟩
theorem jw176 : (.code y_Gr_add b_Gr_add 7 (some .boolean) : Cond) ∈ gw := List.mem_filter.mpr ⟨List.mem_append_right _ (List.mem_append_right _ (List.mem_append_left _ (List.mem_of_getElem? (i := 187) rfl))), by rfl⟩
theorem jw177 : (.initialized R_Gr : Cond) ∈ gw := List.mem_filter.mpr ⟨List.mem_append_right _ (List.mem_append_left _ (List.mem_of_getElem? (i := 7) rfl)), by rfl⟩
theorem jw178 : (.instanceMethod y_Gr_add : Cond) ∈ gw := List.mem_filter.mpr ⟨List.mem_append_right _ (List.mem_append_right _ (List.mem_append_left _ (List.mem_of_getElem? (i := 185) rfl))), by rfl⟩
theorem jw179 : (.selects R_Gr y_Gr_add y_Gr_add : Cond) ∈ gw := List.mem_filter.mpr ⟨List.mem_append_right _ (List.mem_append_right _ (List.mem_append_left _ (List.mem_of_getElem? (i := 186) rfl))), by rfl⟩
theorem jw180 : (.methodLink R_Gr 58 y_Tr_putWhole : Cond) ∈ gw := List.mem_filter.mpr ⟨List.mem_append_right _ (List.mem_append_right _ (List.mem_append_right _ (List.mem_append_left _ (List.mem_of_getElem? (i := 68) rfl)))), by rfl⟩
theorem jw181 : (.code y_Tr_putWhole b_Tr_putWhole 3 none : Cond) ∈ gw := List.mem_filter.mpr ⟨List.mem_append_right _ (List.mem_append_right _ (List.mem_append_right _ (List.mem_append_left _ (List.mem_of_getElem? (i := 71) rfl)))), by rfl⟩
theorem jw182 : (.instanceMethod y_Tr_putWhole : Cond) ∈ gw := List.mem_filter.mpr ⟨List.mem_append_right _ (List.mem_append_right _ (List.mem_append_right _ (List.mem_append_left _ (List.mem_of_getElem? (i := 69) rfl)))), by rfl⟩
theorem jw183 : (.selects R_Tr y_Tr_putWhole y_Tr_putWhole : Cond) ∈ gw := List.mem_filter.mpr ⟨List.mem_append_right _ (List.mem_append_right _ (List.mem_append_right _ (List.mem_append_left _ (List.mem_of_getElem? (i := 70) rfl)))), by rfl⟩
theorem jw184 : (.methodLink R_Gr 44 y_Tr_makeRoom : Cond) ∈ gw := List.mem_filter.mpr ⟨List.mem_append_right _ (List.mem_append_right _ (List.mem_append_right _ (List.mem_append_left _ (List.mem_of_getElem? (i := 49) rfl)))), by rfl⟩
theorem jw185 : (.code y_Tr_makeRoom b_Tr_makeRoom 2 none : Cond) ∈ gw := List.mem_filter.mpr ⟨List.mem_append_right _ (List.mem_append_right _ (List.mem_append_right _ (List.mem_append_left _ (List.mem_of_getElem? (i := 52) rfl)))), by rfl⟩
theorem jw186 : (.instanceMethod y_Tr_makeRoom : Cond) ∈ gw := List.mem_filter.mpr ⟨List.mem_append_right _ (List.mem_append_right _ (List.mem_append_right _ (List.mem_append_left _ (List.mem_of_getElem? (i := 50) rfl)))), by rfl⟩
theorem jw187 : (.selects R_Tr y_Tr_makeRoom y_Tr_makeRoom : Cond) ∈ gw := List.mem_filter.mpr ⟨List.mem_append_right _ (List.mem_append_right _ (List.mem_append_right _ (List.mem_append_left _ (List.mem_of_getElem? (i := 51) rfl)))), by rfl⟩
theorem jw188 : (.methodLink R_Gr 50 y_Tr_put : Cond) ∈ gw := List.mem_filter.mpr ⟨List.mem_append_right _ (List.mem_append_right _ (List.mem_append_right _ (List.mem_append_left _ (List.mem_of_getElem? (i := 56) rfl)))), by rfl⟩
theorem jw189 : (.code y_Tr_put b_Tr_put 7 none : Cond) ∈ gw := List.mem_filter.mpr ⟨List.mem_append_right _ (List.mem_append_right _ (List.mem_append_right _ (List.mem_append_left _ (List.mem_of_getElem? (i := 59) rfl)))), by rfl⟩
theorem jw190 : (.instanceMethod y_Tr_put : Cond) ∈ gw := List.mem_filter.mpr ⟨List.mem_append_right _ (List.mem_append_right _ (List.mem_append_right _ (List.mem_append_left _ (List.mem_of_getElem? (i := 57) rfl)))), by rfl⟩
theorem jw191 : (.selects R_Tr y_Tr_put y_Tr_put : Cond) ∈ gw := List.mem_filter.mpr ⟨List.mem_append_right _ (List.mem_append_right _ (List.mem_append_right _ (List.mem_append_left _ (List.mem_of_getElem? (i := 58) rfl)))), by rfl⟩
theorem jw192 : (.methodLink R_Gr 54 y_Gr_numberParts : Cond) ∈ gw := List.mem_filter.mpr ⟨List.mem_append_right _ (List.mem_append_right _ (List.mem_append_right _ (List.mem_append_left _ (List.mem_of_getElem? (i := 64) rfl)))), by rfl⟩
theorem jw193 : (.code y_Gr_numberParts b_Gr_numberParts 6 none : Cond) ∈ gw := List.mem_filter.mpr ⟨List.mem_append_right _ (List.mem_append_right _ (List.mem_append_right _ (List.mem_append_left _ (List.mem_of_getElem? (i := 67) rfl)))), by rfl⟩
theorem jw194 : (.instanceMethod y_Gr_numberParts : Cond) ∈ gw := List.mem_filter.mpr ⟨List.mem_append_right _ (List.mem_append_right _ (List.mem_append_right _ (List.mem_append_left _ (List.mem_of_getElem? (i := 66) rfl)))), by rfl⟩
theorem jw195 : (.selects R_Gr y_Gr_numberParts y_Gr_numberParts : Cond) ∈ gw := List.mem_filter.mpr ⟨List.mem_append_left _ (by decide +kernel), by rfl⟩
theorem jw196 : (.methodLink R_Pa 3 objectInit : Cond) ∈ gw := List.mem_filter.mpr ⟨List.mem_append_right _ (List.mem_append_left _ (List.mem_of_getElem? (i := 105) rfl)), by rfl⟩
theorem jw197 : (.classLink R_Pa 9 R_Tk : Cond) ∈ gw := List.mem_filter.mpr ⟨List.mem_append_right _ (List.mem_append_left _ (List.mem_of_getElem? (i := 106) rfl)), by rfl⟩
theorem jw198 : (.instantiable R_Tk 5 : Cond) ∈ gw := List.mem_filter.mpr ⟨List.mem_append_right _ (List.mem_append_left _ (List.mem_of_getElem? (i := 107) rfl)), by rfl⟩
theorem jw199 : (.methodLink R_Pa 11 y_Tk_init : Cond) ∈ gw := List.mem_filter.mpr ⟨List.mem_append_right _ (List.mem_append_left _ (List.mem_of_getElem? (i := 108) rfl)), by rfl⟩
theorem jw200 : (.code y_Tk_init b_Tk_init 1 none : Cond) ∈ gw := List.mem_filter.mpr ⟨List.mem_append_right _ (List.mem_append_left _ (List.mem_of_getElem? (i := 110) rfl)), by rfl⟩
theorem jw201 : (.instanceMethod y_Tk_init : Cond) ∈ gw := List.mem_filter.mpr ⟨List.mem_append_right _ (List.mem_append_left _ (List.mem_of_getElem? (i := 109) rfl)), by rfl⟩
theorem jw202 : (.fieldLink R_Pa 12 "TermReader$Parser" "tokens" "LTermReader$Tokens;" : Cond) ∈ gw := List.mem_filter.mpr ⟨List.mem_append_right _ (List.mem_append_left _ (List.mem_of_getElem? (i := 157) rfl)), by rfl⟩
theorem jw203 : (.classLink R_Pa 18 R_Gr : Cond) ∈ gw := List.mem_filter.mpr ⟨List.mem_append_right _ (List.mem_append_left _ (List.mem_of_getElem? (i := 128) rfl)), by rfl⟩
theorem jw204 : (.instantiable R_Gr 7 : Cond) ∈ gw := List.mem_filter.mpr ⟨List.mem_append_right _ (List.mem_append_left _ (List.mem_of_getElem? (i := 129) rfl)), by rfl⟩
theorem jw205 : (.methodLink R_Pa 20 y_Gr_init : Cond) ∈ gw := List.mem_filter.mpr ⟨List.mem_append_right _ (List.mem_append_left _ (List.mem_of_getElem? (i := 130) rfl)), by rfl⟩
theorem jw206 : (.code y_Gr_init b_Gr_init 1 none : Cond) ∈ gw := List.mem_filter.mpr ⟨List.mem_append_right _ (List.mem_append_left _ (List.mem_of_getElem? (i := 132) rfl)), by rfl⟩
theorem jw207 : (.instanceMethod y_Gr_init : Cond) ∈ gw := List.mem_filter.mpr ⟨List.mem_append_right _ (List.mem_append_left _ (List.mem_of_getElem? (i := 131) rfl)), by rfl⟩
theorem jw208 : (.fieldLink R_Pa 21 "TermReader$Parser" "growth" "LTermReader$Growth;" : Cond) ∈ gw := List.mem_filter.mpr ⟨List.mem_append_right _ (List.mem_append_left _ (List.mem_of_getElem? (i := 158) rfl)), by rfl⟩
theorem jw209 : (.fieldLink R_Pa 25 "TermReader$Parser" "waiting" "[I" : Cond) ∈ gw := List.mem_filter.mpr ⟨List.mem_append_right _ (List.mem_append_left _ (List.mem_of_getElem? (i := 160) rfl)), by rfl⟩
theorem jw210 : (.fieldLink R_Pa 29 "TermReader$Parser" "begunPlaces" "[I" : Cond) ∈ gw := List.mem_filter.mpr ⟨List.mem_append_right _ (List.mem_append_left _ (List.mem_of_getElem? (i := 162) rfl)), by rfl⟩
theorem jw211 : (.fieldLink R_Pa 32 "TermReader$Parser" "begunFrom" "[I" : Cond) ∈ gw := List.mem_filter.mpr ⟨List.mem_append_right _ (List.mem_append_left _ (List.mem_of_getElem? (i := 163) rfl)), by rfl⟩
theorem jw212 : (.fieldLink R_Pa 35 "TermReader$Parser" "waitingCount" "I" : Cond) ∈ gw := List.mem_filter.mpr ⟨List.mem_append_right _ (List.mem_append_left _ (List.mem_of_getElem? (i := 161) rfl)), by rfl⟩
theorem jw213 : (.fieldLink R_Pa 39 "TermReader$Parser" "begunCount" "I" : Cond) ∈ gw := List.mem_filter.mpr ⟨List.mem_append_right _ (List.mem_append_left _ (List.mem_of_getElem? (i := 164) rfl)), by rfl⟩
theorem jw214 : (.fieldLink R_Pa 42 "TermReader$Parser" "depth" "I" : Cond) ∈ gw := List.mem_filter.mpr ⟨List.mem_append_right _ (List.mem_append_left _ (List.mem_of_getElem? (i := 165) rfl)), by rfl⟩
theorem jw215 : (.methodLink R_Pa 64 y_Tk_nextPlace : Cond) ∈ gw := List.mem_filter.mpr ⟨List.mem_append_right _ (List.mem_append_right _ (List.mem_append_left _ (List.mem_of_getElem? (i := 157) rfl))), by rfl⟩
theorem jw216 : (.code y_Tk_nextPlace b_Tk_nextPlace 1 (some .int) : Cond) ∈ gw := List.mem_filter.mpr ⟨List.mem_append_right _ (List.mem_append_right _ (List.mem_append_left _ (List.mem_of_getElem? (i := 160) rfl))), by rfl⟩
theorem jw217 : (.instanceMethod y_Tk_nextPlace : Cond) ∈ gw := List.mem_filter.mpr ⟨List.mem_append_right _ (List.mem_append_right _ (List.mem_append_left _ (List.mem_of_getElem? (i := 158) rfl))), by rfl⟩
theorem jw218 : (.selects R_Tk y_Tk_nextPlace y_Tk_nextPlace : Cond) ∈ gw := List.mem_filter.mpr ⟨List.mem_append_right _ (List.mem_append_right _ (List.mem_append_left _ (List.mem_of_getElem? (i := 159) rfl))), by rfl⟩
theorem jw219 : (.fieldLink R_Pa 57 "TermReader$Growth" "count" "I" : Cond) ∈ gw := List.mem_filter.mpr ⟨List.mem_append_right _ (List.mem_append_left _ (List.mem_of_getElem? (i := 141) rfl)), by rfl⟩
theorem jw220 : (.methodLink R_Pa 97 y_Pa_await : Cond) ∈ gw := List.mem_filter.mpr ⟨List.mem_append_right _ (List.mem_append_right _ (List.mem_append_left _ (List.mem_of_getElem? (i := 161) rfl))), by rfl⟩
theorem jw221 : (.code y_Pa_await b_Pa_await 3 (some .boolean) : Cond) ∈ gw := List.mem_filter.mpr ⟨List.mem_append_right _ (List.mem_append_right _ (List.mem_append_left _ (List.mem_of_getElem? (i := 164) rfl))), by rfl⟩
theorem jw222 : (.initialized R_Pa : Cond) ∈ gw := List.mem_filter.mpr ⟨List.mem_append_right _ (List.mem_append_left _ (List.mem_of_getElem? (i := 5) rfl)), by rfl⟩
theorem jw223 : (.instanceMethod y_Pa_await : Cond) ∈ gw := List.mem_filter.mpr ⟨List.mem_append_right _ (List.mem_append_right _ (List.mem_append_left _ (List.mem_of_getElem? (i := 163) rfl))), by rfl⟩
theorem jw224 : (.selects R_Pa y_Pa_await y_Pa_await : Cond) ∈ gw := List.mem_filter.mpr ⟨List.mem_append_left _ (by decide +kernel), by rfl⟩
theorem jw225 : (.methodLink R_Pa 69 y_Gr_add : Cond) ∈ gw := List.mem_filter.mpr ⟨List.mem_append_right _ (List.mem_append_right _ (List.mem_append_left _ (List.mem_of_getElem? (i := 184) rfl))), by rfl⟩
theorem jw226 : (.methodLink R_Pa 53 y_Tk_nextKind : Cond) ∈ gw := List.mem_filter.mpr ⟨List.mem_append_right _ (List.mem_append_right _ (List.mem_append_left _ (List.mem_of_getElem? (i := 139) rfl))), by rfl⟩
theorem jw227 : (.code y_Tk_nextKind b_Tk_nextKind 1 (some .int) : Cond) ∈ gw := List.mem_filter.mpr ⟨List.mem_append_right _ (List.mem_append_right _ (List.mem_append_left _ (List.mem_of_getElem? (i := 142) rfl))), by rfl⟩
theorem jw228 : (.instanceMethod y_Tk_nextKind : Cond) ∈ gw := List.mem_filter.mpr ⟨List.mem_append_right _ (List.mem_append_right _ (List.mem_append_left _ (List.mem_of_getElem? (i := 140) rfl))), by rfl⟩
theorem jw229 : (.selects R_Tk y_Tk_nextKind y_Tk_nextKind : Cond) ∈ gw := List.mem_filter.mpr ⟨List.mem_append_right _ (List.mem_append_right _ (List.mem_append_left _ (List.mem_of_getElem? (i := 141) rfl))), by rfl⟩
theorem jw230 : (.methodLink R_Pa 91 y_Pa_isNot : Cond) ∈ gw := List.mem_filter.mpr ⟨List.mem_append_right _ (List.mem_append_right _ (List.mem_append_left _ (List.mem_of_getElem? (i := 195) rfl))), by rfl⟩
theorem jw231 : (.code y_Pa_isNot b_Pa_isNot 2 (some .boolean) : Cond) ∈ gw := List.mem_filter.mpr ⟨List.mem_append_right _ (List.mem_append_right _ (List.mem_append_left _ (List.mem_of_getElem? (i := 198) rfl))), by rfl⟩
theorem jw232 : (.instanceMethod y_Pa_isNot : Cond) ∈ gw := List.mem_filter.mpr ⟨List.mem_append_right _ (List.mem_append_right _ (List.mem_append_left _ (List.mem_of_getElem? (i := 197) rfl))), by rfl⟩
theorem jw233 : (.selects R_Pa y_Pa_isNot y_Pa_isNot : Cond) ∈ gw := List.mem_filter.mpr ⟨List.mem_append_left _ (by decide +kernel), by rfl⟩
theorem jw234 : (.methodLink R_Pa 204 y_Tk_advance : Cond) ∈ gw := List.mem_filter.mpr ⟨List.mem_append_right _ (List.mem_append_right _ (List.mem_append_left _ (List.mem_of_getElem? (i := 199) rfl))), by rfl⟩
theorem jw235 : (.code y_Tk_advance b_Tk_advance 1 none : Cond) ∈ gw := List.mem_filter.mpr ⟨List.mem_append_right _ (List.mem_append_right _ (List.mem_append_left _ (List.mem_of_getElem? (i := 202) rfl))), by rfl⟩
theorem jw236 : (.instanceMethod y_Tk_advance : Cond) ∈ gw := List.mem_filter.mpr ⟨List.mem_append_right _ (List.mem_append_right _ (List.mem_append_left _ (List.mem_of_getElem? (i := 200) rfl))), by rfl⟩
theorem jw237 : (.selects R_Tk y_Tk_advance y_Tk_advance : Cond) ∈ gw := List.mem_filter.mpr ⟨List.mem_append_right _ (List.mem_append_right _ (List.mem_append_left _ (List.mem_of_getElem? (i := 201) rfl))), by rfl⟩
theorem jw238 : (.methodLink R_Pa 207 y_Tk_nextValue : Cond) ∈ gw := List.mem_filter.mpr ⟨List.mem_append_right _ (List.mem_append_right _ (List.mem_append_left _ (List.mem_of_getElem? (i := 217) rfl))), by rfl⟩
theorem jw239 : (.code y_Tk_nextValue b_Tk_nextValue 1 (some .int) : Cond) ∈ gw := List.mem_filter.mpr ⟨List.mem_append_right _ (List.mem_append_right _ (List.mem_append_left _ (List.mem_of_getElem? (i := 220) rfl))), by rfl⟩
theorem jw240 : (.instanceMethod y_Tk_nextValue : Cond) ∈ gw := List.mem_filter.mpr ⟨List.mem_append_right _ (List.mem_append_right _ (List.mem_append_left _ (List.mem_of_getElem? (i := 218) rfl))), by rfl⟩
theorem jw241 : (.selects R_Tk y_Tk_nextValue y_Tk_nextValue : Cond) ∈ gw := List.mem_filter.mpr ⟨List.mem_append_right _ (List.mem_append_right _ (List.mem_append_left _ (List.mem_of_getElem? (i := 219) rfl))), by rfl⟩
theorem jw242 : (.fieldLink R_Pa 201 "TermReader$Rule" "DEEPER_TERM_ROW" "[I" : Cond) ∈ gw := List.mem_filter.mpr ⟨List.mem_append_right _ (List.mem_append_right _ (List.mem_append_right _ (List.mem_append_left _ (List.mem_of_getElem? (i := 7) rfl)))), by rfl⟩
theorem jw243 : (.fieldLink R_Pa 198 "TermReader$Rule" "TYPED_ROW" "[I" : Cond) ∈ gw := List.mem_filter.mpr ⟨List.mem_append_right _ (List.mem_append_right _ (List.mem_append_right _ (List.mem_append_left _ (List.mem_of_getElem? (i := 43) rfl)))), by rfl⟩
theorem jw244 : (.fieldLink R_Pa 195 "TermReader$Rule" "CLOSE_ROW" "[I" : Cond) ∈ gw := List.mem_filter.mpr ⟨List.mem_append_right _ (List.mem_append_right _ (List.mem_append_right _ (List.mem_append_left _ (List.mem_of_getElem? (i := 41) rfl)))), by rfl⟩
theorem jw245 : (.methodLink R_Pa 189 y_To_beginsAtom : Cond) ∈ gw := List.mem_filter.mpr ⟨List.mem_append_right _ (List.mem_append_right _ (List.mem_append_right _ (List.mem_append_left _ (List.mem_of_getElem? (i := 27) rfl)))), by rfl⟩
theorem jw246 : (.code y_To_beginsAtom b_To_beginsAtom 1 (some .boolean) : Cond) ∈ gw := List.mem_filter.mpr ⟨List.mem_append_right _ (List.mem_append_right _ (List.mem_append_right _ (List.mem_append_left _ (List.mem_of_getElem? (i := 29) rfl)))), by rfl⟩
theorem jw247 : (.static y_To_beginsAtom : Cond) ∈ gw := List.mem_filter.mpr ⟨List.mem_append_right _ (List.mem_append_right _ (List.mem_append_right _ (List.mem_append_left _ (List.mem_of_getElem? (i := 28) rfl)))), by rfl⟩
theorem jw248 : (.fieldLink R_Pa 192 "TermReader$Rule" "MORE_ATOMS_ROW" "[I" : Cond) ∈ gw := List.mem_filter.mpr ⟨List.mem_append_right _ (List.mem_append_right _ (List.mem_append_right _ (List.mem_append_left _ (List.mem_of_getElem? (i := 30) rfl)))), by rfl⟩
theorem jw249 : (.fieldLink R_Pa 186 "TermReader$Rule" "ARROW_ROW" "[I" : Cond) ∈ gw := List.mem_filter.mpr ⟨List.mem_append_right _ (List.mem_append_right _ (List.mem_append_right _ (List.mem_append_left _ (List.mem_of_getElem? (i := 25) rfl)))), by rfl⟩
theorem jw250 : (.methodLink R_Pa 110 y_Pa_takeLeaf : Cond) ∈ gw := List.mem_filter.mpr ⟨List.mem_append_right _ (List.mem_append_right _ (List.mem_append_left _ (List.mem_of_getElem? (i := 213) rfl))), by rfl⟩
theorem jw251 : (.code y_Pa_takeLeaf b_Pa_takeLeaf 3 (some .boolean) : Cond) ∈ gw := List.mem_filter.mpr ⟨List.mem_append_right _ (List.mem_append_right _ (List.mem_append_left _ (List.mem_of_getElem? (i := 216) rfl))), by rfl⟩
theorem jw252 : (.instanceMethod y_Pa_takeLeaf : Cond) ∈ gw := List.mem_filter.mpr ⟨List.mem_append_right _ (List.mem_append_right _ (List.mem_append_left _ (List.mem_of_getElem? (i := 215) rfl))), by rfl⟩
theorem jw253 : (.selects R_Pa y_Pa_takeLeaf y_Pa_takeLeaf : Cond) ∈ gw := List.mem_filter.mpr ⟨List.mem_append_left _ (by decide +kernel), by rfl⟩
theorem jw254 : (.fieldLink R_Pa 180 "TermReader$Rule" "REC_ROW" "[I" : Cond) ∈ gw := List.mem_filter.mpr ⟨List.mem_append_right _ (List.mem_append_right _ (List.mem_append_right _ (List.mem_append_left _ (List.mem_of_getElem? (i := 17) rfl)))), by rfl⟩
theorem jw255 : (.methodLink R_Pa 104 y_Pa_begin : Cond) ∈ gw := List.mem_filter.mpr ⟨List.mem_append_right _ (List.mem_append_right _ (List.mem_append_left _ (List.mem_of_getElem? (i := 153) rfl))), by rfl⟩
theorem jw256 : (.code y_Pa_begin b_Pa_begin 2 (some .boolean) : Cond) ∈ gw := List.mem_filter.mpr ⟨List.mem_append_right _ (List.mem_append_right _ (List.mem_append_left _ (List.mem_of_getElem? (i := 156) rfl))), by rfl⟩
theorem jw257 : (.instanceMethod y_Pa_begin : Cond) ∈ gw := List.mem_filter.mpr ⟨List.mem_append_right _ (List.mem_append_right _ (List.mem_append_left _ (List.mem_of_getElem? (i := 155) rfl))), by rfl⟩
theorem jw258 : (.selects R_Pa y_Pa_begin y_Pa_begin : Cond) ∈ gw := List.mem_filter.mpr ⟨List.mem_append_left _ (by decide +kernel), by rfl⟩
theorem jw259 : (.fieldLink R_Pa 183 "TermReader$Rule" "BRACKET_ROW" "[I" : Cond) ∈ gw := List.mem_filter.mpr ⟨List.mem_append_right _ (List.mem_append_right _ (List.mem_append_right _ (List.mem_append_left _ (List.mem_of_getElem? (i := 19) rfl)))), by rfl⟩
theorem jw260 : (.fieldLink R_Pa 168 "TermReader$Rule" "FUN_ROW" "[I" : Cond) ∈ gw := List.mem_filter.mpr ⟨List.mem_append_right _ (List.mem_append_right _ (List.mem_append_left _ (List.mem_of_getElem? (i := 235) rfl))), by rfl⟩
theorem jw261 : (.fieldLink R_Pa 171 "TermReader$Rule" "ALL_ROW" "[I" : Cond) ∈ gw := List.mem_filter.mpr ⟨List.mem_append_right _ (List.mem_append_right _ (List.mem_append_left _ (List.mem_of_getElem? (i := 237) rfl))), by rfl⟩
theorem jw262 : (.fieldLink R_Pa 174 "TermReader$Rule" "LET_ROW" "[I" : Cond) ∈ gw := List.mem_filter.mpr ⟨List.mem_append_right _ (List.mem_append_right _ (List.mem_append_left _ (List.mem_of_getElem? (i := 239) rfl))), by rfl⟩
theorem jw263 : (.fieldLink R_Pa 177 "TermReader$Rule" "ATOMS_ROW" "[I" : Cond) ∈ gw := List.mem_filter.mpr ⟨List.mem_append_right _ (List.mem_append_right _ (List.mem_append_right _ (List.mem_append_left _ (List.mem_of_getElem? (i := 1) rfl)))), by rfl⟩
theorem jw264 : (.fieldLink R_Pa 165 "TermReader$Rule" "TYPE_ROW" "[I" : Cond) ∈ gw := List.mem_filter.mpr ⟨List.mem_append_right _ (List.mem_append_right _ (List.mem_append_left _ (List.mem_of_getElem? (i := 229) rfl))), by rfl⟩
theorem jw265 : (.fieldLink R_Pa 162 "TermReader$Rule" "BARE_GROUP_ROW" "[I" : Cond) ∈ gw := List.mem_filter.mpr ⟨List.mem_append_right _ (List.mem_append_right _ (List.mem_append_left _ (List.mem_of_getElem? (i := 211) rfl))), by rfl⟩
theorem jw266 : (.fieldLink R_Pa 94 "TermReader$Rule" "GROUPS_ROW" "[I" : Cond) ∈ gw := List.mem_filter.mpr ⟨List.mem_append_right _ (List.mem_append_right _ (List.mem_append_left _ (List.mem_of_getElem? (i := 203) rfl))), by rfl⟩
theorem jw267 : (.fieldLink R_Pa 144 "TermReader$Rule" "AXIOM_ROW" "[I" : Cond) ∈ gw := List.mem_filter.mpr ⟨List.mem_append_right _ (List.mem_append_right _ (List.mem_append_left _ (List.mem_of_getElem? (i := 151) rfl))), by rfl⟩
theorem jw268 : (.fieldLink R_Pa 147 "TermReader$Rule" "DEF_ROW" "[I" : Cond) ∈ gw := List.mem_filter.mpr ⟨List.mem_append_right _ (List.mem_append_right _ (List.mem_append_left _ (List.mem_of_getElem? (i := 165) rfl))), by rfl⟩
theorem jw269 : (.fieldLink R_Pa 150 "TermReader$Rule" "LEMMA_ROW" "[I" : Cond) ∈ gw := List.mem_filter.mpr ⟨List.mem_append_right _ (List.mem_append_right _ (List.mem_append_left _ (List.mem_of_getElem? (i := 167) rfl))), by rfl⟩
theorem jw270 : (.fieldLink R_Pa 153 "TermReader$Rule" "DATA_ROW" "[I" : Cond) ∈ gw := List.mem_filter.mpr ⟨List.mem_append_right _ (List.mem_append_right _ (List.mem_append_left _ (List.mem_of_getElem? (i := 169) rfl))), by rfl⟩
theorem jw271 : (.fieldLink R_Pa 156 "TermReader$Rule" "CHECK_ROW" "[I" : Cond) ∈ gw := List.mem_filter.mpr ⟨List.mem_append_right _ (List.mem_append_right _ (List.mem_append_left _ (List.mem_of_getElem? (i := 171) rfl))), by rfl⟩
theorem jw272 : (.fieldLink R_Pa 159 "TermReader$Rule" "NORM_ROW" "[I" : Cond) ∈ gw := List.mem_filter.mpr ⟨List.mem_append_right _ (List.mem_append_right _ (List.mem_append_left _ (List.mem_of_getElem? (i := 173) rfl))), by rfl⟩
theorem jw273 : (.fieldLink R_Pa 101 "TermReader$Rule" "GROUP_ROW" "[I" : Cond) ∈ gw := List.mem_filter.mpr ⟨List.mem_append_right _ (List.mem_append_right _ (List.mem_append_left _ (List.mem_of_getElem? (i := 205) rfl))), by rfl⟩
theorem jw274 : (.methodLink R_Pa 107 y_Pa_expandBinders : Cond) ∈ gw := List.mem_filter.mpr ⟨List.mem_append_right _ (List.mem_append_right _ (List.mem_append_left _ (List.mem_of_getElem? (i := 207) rfl))), by rfl⟩
theorem jw275 : (.code y_Pa_expandBinders b_Pa_expandBinders 1 (some .boolean) : Cond) ∈ gw := List.mem_filter.mpr ⟨List.mem_append_right _ (List.mem_append_right _ (List.mem_append_left _ (List.mem_of_getElem? (i := 210) rfl))), by rfl⟩
theorem jw276 : (.instanceMethod y_Pa_expandBinders : Cond) ∈ gw := List.mem_filter.mpr ⟨List.mem_append_right _ (List.mem_append_right _ (List.mem_append_left _ (List.mem_of_getElem? (i := 209) rfl))), by rfl⟩
theorem jw277 : (.selects R_Pa y_Pa_expandBinders y_Pa_expandBinders : Cond) ∈ gw := List.mem_filter.mpr ⟨List.mem_append_left _ (by decide +kernel), by rfl⟩
theorem jw278 : (.fieldLink R_Pa 114 "TermReader$Rule" "MORE_BINDERS_ROW" "[I" : Cond) ∈ gw := List.mem_filter.mpr ⟨List.mem_append_right _ (List.mem_append_right _ (List.mem_append_left _ (List.mem_of_getElem? (i := 221) rfl))), by rfl⟩
theorem jw279 : (.fieldLink R_Pa 117 "TermReader$Rule" "CONSTRUCTORS_ROW" "[I" : Cond) ∈ gw := List.mem_filter.mpr ⟨List.mem_append_right _ (List.mem_append_right _ (List.mem_append_left _ (List.mem_of_getElem? (i := 223) rfl))), by rfl⟩
theorem jw280 : (.methodLink R_Pa 120 y_Pa_expandTypeOrNothing : Cond) ∈ gw := List.mem_filter.mpr ⟨List.mem_append_right _ (List.mem_append_right _ (List.mem_append_left _ (List.mem_of_getElem? (i := 225) rfl))), by rfl⟩
theorem jw281 : (.code y_Pa_expandTypeOrNothing b_Pa_expandTypeOrNothing 1 (some .boolean) : Cond) ∈ gw := List.mem_filter.mpr ⟨List.mem_append_right _ (List.mem_append_right _ (List.mem_append_left _ (List.mem_of_getElem? (i := 228) rfl))), by rfl⟩
theorem jw282 : (.instanceMethod y_Pa_expandTypeOrNothing : Cond) ∈ gw := List.mem_filter.mpr ⟨List.mem_append_right _ (List.mem_append_right _ (List.mem_append_left _ (List.mem_of_getElem? (i := 227) rfl))), by rfl⟩
theorem jw283 : (.selects R_Pa y_Pa_expandTypeOrNothing y_Pa_expandTypeOrNothing : Cond) ∈ gw := List.mem_filter.mpr ⟨List.mem_append_left _ (by decide +kernel), by rfl⟩
theorem jw284 : (.methodLink R_Pa 123 y_Pa_expandTerm : Cond) ∈ gw := List.mem_filter.mpr ⟨List.mem_append_right _ (List.mem_append_right _ (List.mem_append_left _ (List.mem_of_getElem? (i := 231) rfl))), by rfl⟩
theorem jw285 : (.code y_Pa_expandTerm b_Pa_expandTerm 1 (some .boolean) : Cond) ∈ gw := List.mem_filter.mpr ⟨List.mem_append_right _ (List.mem_append_right _ (List.mem_append_left _ (List.mem_of_getElem? (i := 234) rfl))), by rfl⟩
theorem jw286 : (.instanceMethod y_Pa_expandTerm : Cond) ∈ gw := List.mem_filter.mpr ⟨List.mem_append_right _ (List.mem_append_right _ (List.mem_append_left _ (List.mem_of_getElem? (i := 233) rfl))), by rfl⟩
theorem jw287 : (.selects R_Pa y_Pa_expandTerm y_Pa_expandTerm : Cond) ∈ gw := List.mem_filter.mpr ⟨List.mem_append_left _ (by decide +kernel), by rfl⟩
theorem jw288 : (.methodLink R_Pa 126 y_Pa_goDeeper : Cond) ∈ gw := List.mem_filter.mpr ⟨List.mem_append_right _ (List.mem_append_right _ (List.mem_append_right _ (List.mem_append_left _ (List.mem_of_getElem? (i := 3) rfl)))), by rfl⟩
theorem jw289 : (.code y_Pa_goDeeper b_Pa_goDeeper 1 (some .boolean) : Cond) ∈ gw := List.mem_filter.mpr ⟨List.mem_append_right _ (List.mem_append_right _ (List.mem_append_right _ (List.mem_append_left _ (List.mem_of_getElem? (i := 6) rfl)))), by rfl⟩
theorem jw290 : (.instanceMethod y_Pa_goDeeper : Cond) ∈ gw := List.mem_filter.mpr ⟨List.mem_append_right _ (List.mem_append_right _ (List.mem_append_right _ (List.mem_append_left _ (List.mem_of_getElem? (i := 5) rfl)))), by rfl⟩
theorem jw291 : (.selects R_Pa y_Pa_goDeeper y_Pa_goDeeper : Cond) ∈ gw := List.mem_filter.mpr ⟨List.mem_append_left _ (by decide +kernel), by rfl⟩
theorem jw292 : (.methodLink R_Pa 129 y_Pa_rise : Cond) ∈ gw := List.mem_filter.mpr ⟨List.mem_append_right _ (List.mem_append_right _ (List.mem_append_right _ (List.mem_append_left _ (List.mem_of_getElem? (i := 9) rfl)))), by rfl⟩
theorem jw293 : (.code y_Pa_rise b_Pa_rise 1 (some .boolean) : Cond) ∈ gw := List.mem_filter.mpr ⟨List.mem_append_right _ (List.mem_append_right _ (List.mem_append_right _ (List.mem_append_left _ (List.mem_of_getElem? (i := 12) rfl)))), by rfl⟩
theorem jw294 : (.instanceMethod y_Pa_rise : Cond) ∈ gw := List.mem_filter.mpr ⟨List.mem_append_right _ (List.mem_append_right _ (List.mem_append_right _ (List.mem_append_left _ (List.mem_of_getElem? (i := 11) rfl)))), by rfl⟩
theorem jw295 : (.selects R_Pa y_Pa_rise y_Pa_rise : Cond) ∈ gw := List.mem_filter.mpr ⟨List.mem_append_left _ (by decide +kernel), by rfl⟩
theorem jw296 : (.methodLink R_Pa 132 y_Pa_expandAtom : Cond) ∈ gw := List.mem_filter.mpr ⟨List.mem_append_right _ (List.mem_append_right _ (List.mem_append_right _ (List.mem_append_left _ (List.mem_of_getElem? (i := 13) rfl)))), by rfl⟩
theorem jw297 : (.code y_Pa_expandAtom b_Pa_expandAtom 1 (some .boolean) : Cond) ∈ gw := List.mem_filter.mpr ⟨List.mem_append_right _ (List.mem_append_right _ (List.mem_append_right _ (List.mem_append_left _ (List.mem_of_getElem? (i := 16) rfl)))), by rfl⟩
theorem jw298 : (.instanceMethod y_Pa_expandAtom : Cond) ∈ gw := List.mem_filter.mpr ⟨List.mem_append_right _ (List.mem_append_right _ (List.mem_append_right _ (List.mem_append_left _ (List.mem_of_getElem? (i := 15) rfl)))), by rfl⟩
theorem jw299 : (.selects R_Pa y_Pa_expandAtom y_Pa_expandAtom : Cond) ∈ gw := List.mem_filter.mpr ⟨List.mem_append_left _ (by decide +kernel), by rfl⟩
theorem jw300 : (.methodLink R_Pa 135 y_Pa_expandMoreAtoms : Cond) ∈ gw := List.mem_filter.mpr ⟨List.mem_append_right _ (List.mem_append_right _ (List.mem_append_right _ (List.mem_append_left _ (List.mem_of_getElem? (i := 21) rfl)))), by rfl⟩
theorem jw301 : (.code y_Pa_expandMoreAtoms b_Pa_expandMoreAtoms 2 (some .boolean) : Cond) ∈ gw := List.mem_filter.mpr ⟨List.mem_append_right _ (List.mem_append_right _ (List.mem_append_right _ (List.mem_append_left _ (List.mem_of_getElem? (i := 24) rfl)))), by rfl⟩
theorem jw302 : (.instanceMethod y_Pa_expandMoreAtoms : Cond) ∈ gw := List.mem_filter.mpr ⟨List.mem_append_right _ (List.mem_append_right _ (List.mem_append_right _ (List.mem_append_left _ (List.mem_of_getElem? (i := 23) rfl)))), by rfl⟩
theorem jw303 : (.selects R_Pa y_Pa_expandMoreAtoms y_Pa_expandMoreAtoms : Cond) ∈ gw := List.mem_filter.mpr ⟨List.mem_append_left _ (by decide +kernel), by rfl⟩
theorem jw304 : (.methodLink R_Pa 138 y_Gr_join : Cond) ∈ gw := List.mem_filter.mpr ⟨List.mem_append_right _ (List.mem_append_right _ (List.mem_append_right _ (List.mem_append_left _ (List.mem_of_getElem? (i := 32) rfl)))), by rfl⟩
theorem jw305 : (.code y_Gr_join b_Gr_join 4 (some .boolean) : Cond) ∈ gw := List.mem_filter.mpr ⟨List.mem_append_right _ (List.mem_append_right _ (List.mem_append_right _ (List.mem_append_left _ (List.mem_of_getElem? (i := 35) rfl)))), by rfl⟩
theorem jw306 : (.instanceMethod y_Gr_join : Cond) ∈ gw := List.mem_filter.mpr ⟨List.mem_append_right _ (List.mem_append_right _ (List.mem_append_right _ (List.mem_append_left _ (List.mem_of_getElem? (i := 33) rfl)))), by rfl⟩
theorem jw307 : (.selects R_Gr y_Gr_join y_Gr_join : Cond) ∈ gw := List.mem_filter.mpr ⟨List.mem_append_right _ (List.mem_append_right _ (List.mem_append_right _ (List.mem_append_left _ (List.mem_of_getElem? (i := 34) rfl)))), by rfl⟩
theorem jw308 : (.methodLink R_Pa 141 y_Pa_expandBracketEnd : Cond) ∈ gw := List.mem_filter.mpr ⟨List.mem_append_right _ (List.mem_append_right _ (List.mem_append_right _ (List.mem_append_left _ (List.mem_of_getElem? (i := 37) rfl)))), by rfl⟩
theorem jw309 : (.code y_Pa_expandBracketEnd b_Pa_expandBracketEnd 1 (some .boolean) : Cond) ∈ gw := List.mem_filter.mpr ⟨List.mem_append_right _ (List.mem_append_right _ (List.mem_append_right _ (List.mem_append_left _ (List.mem_of_getElem? (i := 40) rfl)))), by rfl⟩
theorem jw310 : (.instanceMethod y_Pa_expandBracketEnd : Cond) ∈ gw := List.mem_filter.mpr ⟨List.mem_append_right _ (List.mem_append_right _ (List.mem_append_right _ (List.mem_append_left _ (List.mem_of_getElem? (i := 39) rfl)))), by rfl⟩
theorem jw311 : (.selects R_Pa y_Pa_expandBracketEnd y_Pa_expandBracketEnd : Cond) ∈ gw := List.mem_filter.mpr ⟨List.mem_append_left _ (by decide +kernel), by rfl⟩
theorem jw312 : (.methodLink R_Pa 86 y_Pa_takeToken : Cond) ∈ gw := List.mem_filter.mpr ⟨List.mem_append_right _ (List.mem_append_right _ (List.mem_append_left _ (List.mem_of_getElem? (i := 191) rfl))), by rfl⟩
theorem jw313 : (.code y_Pa_takeToken b_Pa_takeToken 2 (some .boolean) : Cond) ∈ gw := List.mem_filter.mpr ⟨List.mem_append_right _ (List.mem_append_right _ (List.mem_append_left _ (List.mem_of_getElem? (i := 194) rfl))), by rfl⟩
theorem jw314 : (.instanceMethod y_Pa_takeToken : Cond) ∈ gw := List.mem_filter.mpr ⟨List.mem_append_right _ (List.mem_append_right _ (List.mem_append_left _ (List.mem_of_getElem? (i := 193) rfl))), by rfl⟩
theorem jw315 : (.selects R_Pa y_Pa_takeToken y_Pa_takeToken : Cond) ∈ gw := List.mem_filter.mpr ⟨List.mem_append_left _ (by decide +kernel), by rfl⟩
theorem jw316 : (.methodLink R_Pa 83 y_Pa_finish : Cond) ∈ gw := List.mem_filter.mpr ⟨List.mem_append_right _ (List.mem_append_right _ (List.mem_append_left _ (List.mem_of_getElem? (i := 180) rfl))), by rfl⟩
theorem jw317 : (.code y_Pa_finish b_Pa_finish 2 (some .boolean) : Cond) ∈ gw := List.mem_filter.mpr ⟨List.mem_append_right _ (List.mem_append_right _ (List.mem_append_left _ (List.mem_of_getElem? (i := 183) rfl))), by rfl⟩
theorem jw318 : (.instanceMethod y_Pa_finish : Cond) ∈ gw := List.mem_filter.mpr ⟨List.mem_append_right _ (List.mem_append_right _ (List.mem_append_left _ (List.mem_of_getElem? (i := 182) rfl))), by rfl⟩
theorem jw319 : (.selects R_Pa y_Pa_finish y_Pa_finish : Cond) ∈ gw := List.mem_filter.mpr ⟨List.mem_append_left _ (by decide +kernel), by rfl⟩
theorem jw320 : (.methodLink R_Pa 73 y_Pa_expandDeclaration : Cond) ∈ gw := List.mem_filter.mpr ⟨List.mem_append_right _ (List.mem_append_right _ (List.mem_append_left _ (List.mem_of_getElem? (i := 147) rfl))), by rfl⟩
theorem jw321 : (.code y_Pa_expandDeclaration b_Pa_expandDeclaration 1 (some .boolean) : Cond) ∈ gw := List.mem_filter.mpr ⟨List.mem_append_right _ (List.mem_append_right _ (List.mem_append_left _ (List.mem_of_getElem? (i := 150) rfl))), by rfl⟩
theorem jw322 : (.instanceMethod y_Pa_expandDeclaration : Cond) ∈ gw := List.mem_filter.mpr ⟨List.mem_append_right _ (List.mem_append_right _ (List.mem_append_left _ (List.mem_of_getElem? (i := 149) rfl))), by rfl⟩
theorem jw323 : (.selects R_Pa y_Pa_expandDeclaration y_Pa_expandDeclaration : Cond) ∈ gw := List.mem_filter.mpr ⟨List.mem_append_left _ (by decide +kernel), by rfl⟩
theorem jw324 : (.constant R_Pa 76 (1000000 : Int32) : Cond) ∈ gw := List.mem_filter.mpr ⟨List.mem_append_right _ (List.mem_append_right _ (List.mem_append_left _ (List.mem_of_getElem? (i := 175) rfl))), by rfl⟩
theorem jw325 : (.methodLink R_Pa 77 y_Pa_take : Cond) ∈ gw := List.mem_filter.mpr ⟨List.mem_append_right _ (List.mem_append_right _ (List.mem_append_left _ (List.mem_of_getElem? (i := 176) rfl))), by rfl⟩
theorem jw326 : (.code y_Pa_take b_Pa_take 2 (some .boolean) : Cond) ∈ gw := List.mem_filter.mpr ⟨List.mem_append_right _ (List.mem_append_right _ (List.mem_append_left _ (List.mem_of_getElem? (i := 179) rfl))), by rfl⟩
theorem jw327 : (.instanceMethod y_Pa_take : Cond) ∈ gw := List.mem_filter.mpr ⟨List.mem_append_right _ (List.mem_append_right _ (List.mem_append_left _ (List.mem_of_getElem? (i := 178) rfl))), by rfl⟩
theorem jw328 : (.selects R_Pa y_Pa_take y_Pa_take : Cond) ∈ gw := List.mem_filter.mpr ⟨List.mem_append_left _ (by decide +kernel), by rfl⟩
theorem jw329 : (.methodLink R_Pa 45 y_Tk_scan : Cond) ∈ gw := List.mem_filter.mpr ⟨List.mem_append_right _ (List.mem_append_right _ (List.mem_append_left _ (List.mem_of_getElem? (i := 5) rfl))), by rfl⟩
theorem jw330 : (.code y_Tk_scan b_Tk_scan 7 none : Cond) ∈ gw := List.mem_filter.mpr ⟨List.mem_append_right _ (List.mem_append_right _ (List.mem_append_left _ (List.mem_of_getElem? (i := 8) rfl))), by rfl⟩
theorem jw331 : (.instanceMethod y_Tk_scan : Cond) ∈ gw := List.mem_filter.mpr ⟨List.mem_append_right _ (List.mem_append_right _ (List.mem_append_left _ (List.mem_of_getElem? (i := 6) rfl))), by rfl⟩
theorem jw332 : (.selects R_Tk y_Tk_scan y_Tk_scan : Cond) ∈ gw := List.mem_filter.mpr ⟨List.mem_append_right _ (List.mem_append_right _ (List.mem_append_left _ (List.mem_of_getElem? (i := 7) rfl))), by rfl⟩
theorem jw333 : (.methodLink R_Pa 49 y_Gr_cutTo : Cond) ∈ gw := List.mem_filter.mpr ⟨List.mem_append_right _ (List.mem_append_right _ (List.mem_append_left _ (List.mem_of_getElem? (i := 135) rfl))), by rfl⟩
theorem jw334 : (.code y_Gr_cutTo b_Gr_cutTo 2 none : Cond) ∈ gw := List.mem_filter.mpr ⟨List.mem_append_right _ (List.mem_append_right _ (List.mem_append_left _ (List.mem_of_getElem? (i := 138) rfl))), by rfl⟩
theorem jw335 : (.instanceMethod y_Gr_cutTo : Cond) ∈ gw := List.mem_filter.mpr ⟨List.mem_append_right _ (List.mem_append_right _ (List.mem_append_left _ (List.mem_of_getElem? (i := 136) rfl))), by rfl⟩
theorem jw336 : (.selects R_Gr y_Gr_cutTo y_Gr_cutTo : Cond) ∈ gw := List.mem_filter.mpr ⟨List.mem_append_right _ (List.mem_append_right _ (List.mem_append_left _ (List.mem_of_getElem? (i := 137) rfl))), by rfl⟩
theorem jw337 : (.methodLink R_Pa 60 y_Pa_takeDeclaration : Cond) ∈ gw := List.mem_filter.mpr ⟨List.mem_append_right _ (List.mem_append_right _ (List.mem_append_left _ (List.mem_of_getElem? (i := 143) rfl))), by rfl⟩
theorem jw338 : (.code y_Pa_takeDeclaration b_Pa_takeDeclaration 3 (some .boolean) : Cond) ∈ gw := List.mem_filter.mpr ⟨List.mem_append_right _ (List.mem_append_right _ (List.mem_append_left _ (List.mem_of_getElem? (i := 146) rfl))), by rfl⟩
theorem jw339 : (.instanceMethod y_Pa_takeDeclaration : Cond) ∈ gw := List.mem_filter.mpr ⟨List.mem_append_right _ (List.mem_append_right _ (List.mem_append_left _ (List.mem_of_getElem? (i := 145) rfl))), by rfl⟩
theorem jw340 : (.selects R_Pa y_Pa_takeDeclaration y_Pa_takeDeclaration : Cond) ∈ gw := List.mem_filter.mpr ⟨List.mem_append_left _ (by decide +kernel), by rfl⟩
theorem jw341 : (.methodLink R_Wr 3 objectInit : Cond) ∈ gw := List.mem_filter.mpr ⟨List.mem_append_right _ (List.mem_append_left _ (List.mem_of_getElem? (i := 188) rfl)), by rfl⟩
theorem jw342 : (.classLink R_Wr 9 R_By : Cond) ∈ gw := List.mem_filter.mpr ⟨List.mem_append_right _ (List.mem_append_left _ (List.mem_of_getElem? (i := 189) rfl)), by rfl⟩
theorem jw343 : (.instantiable R_By 3 : Cond) ∈ gw := List.mem_filter.mpr ⟨List.mem_append_right _ (List.mem_append_left _ (List.mem_of_getElem? (i := 28) rfl)), by rfl⟩
theorem jw344 : (.methodLink R_Wr 11 y_By_init : Cond) ∈ gw := List.mem_filter.mpr ⟨List.mem_append_right _ (List.mem_append_left _ (List.mem_of_getElem? (i := 190) rfl)), by rfl⟩
theorem jw345 : (.code y_By_init b_By_init 1 none : Cond) ∈ gw := List.mem_filter.mpr ⟨List.mem_append_right _ (List.mem_append_left _ (List.mem_of_getElem? (i := 31) rfl)), by rfl⟩
theorem jw346 : (.instanceMethod y_By_init : Cond) ∈ gw := List.mem_filter.mpr ⟨List.mem_append_right _ (List.mem_append_left _ (List.mem_of_getElem? (i := 30) rfl)), by rfl⟩
theorem jw347 : (.fieldLink R_Wr 12 "TermReader$Writer" "shown" "LTermReader$Bytes;" : Cond) ∈ gw := List.mem_filter.mpr ⟨List.mem_append_right _ (List.mem_append_left _ (List.mem_of_getElem? (i := 191) rfl)), by rfl⟩
theorem jw348 : (.fieldLink R_Wr 18 "TermReader$Writer" "draft" "LTermReader$Bytes;" : Cond) ∈ gw := List.mem_filter.mpr ⟨List.mem_append_right _ (List.mem_append_left _ (List.mem_of_getElem? (i := 193) rfl)), by rfl⟩
theorem jw349 : (.methodLink R_Wr 131 y_Js_length : Cond) ∈ gw := List.mem_filter.mpr ⟨List.mem_append_right _ (List.mem_append_right _ (List.mem_append_right _ (List.mem_append_left _ (List.mem_of_getElem? (i := 202) rfl)))), by rfl⟩
theorem jw350 : (.methodLink R_Wr 136 y_Js_charAt : Cond) ∈ gw := List.mem_filter.mpr ⟨List.mem_append_right _ (List.mem_append_right _ (List.mem_append_right _ (List.mem_append_left _ (List.mem_of_getElem? (i := 203) rfl)))), by rfl⟩
theorem jw351 : (.methodLink R_Wr 93 y_By_put : Cond) ∈ gw := List.mem_filter.mpr ⟨List.mem_append_right _ (List.mem_append_right _ (List.mem_append_right _ (List.mem_append_left _ (List.mem_of_getElem? (i := 196) rfl)))), by rfl⟩
theorem jw352 : (.fieldLink R_Wr 32 "TermReader$Bytes" "length" "I" : Cond) ∈ gw := List.mem_filter.mpr ⟨List.mem_append_right _ (List.mem_append_left _ (List.mem_of_getElem? (i := 36) rfl)), by rfl⟩
theorem jw353 : (.methodLink R_Wr 128 y_By_at : Cond) ∈ gw := List.mem_filter.mpr ⟨List.mem_append_right _ (List.mem_append_right _ (List.mem_append_right _ (List.mem_append_left _ (List.mem_of_getElem? (i := 195) rfl)))), by rfl⟩
theorem jw354 : (.methodLink R_Wr 105 y_Wr_putBlank : Cond) ∈ gw := List.mem_filter.mpr ⟨List.mem_append_right _ (List.mem_append_right _ (List.mem_append_right _ (List.mem_append_left _ (List.mem_of_getElem? (i := 191) rfl)))), by rfl⟩
theorem jw355 : (.code y_Wr_putBlank b_Wr_putBlank 2 none : Cond) ∈ gw := List.mem_filter.mpr ⟨List.mem_append_right _ (List.mem_append_right _ (List.mem_append_right _ (List.mem_append_left _ (List.mem_of_getElem? (i := 194) rfl)))), by rfl⟩
theorem jw356 : (.initialized R_Wr : Cond) ∈ gw := List.mem_filter.mpr ⟨List.mem_append_right _ (List.mem_append_left _ (List.mem_of_getElem? (i := 8) rfl)), by rfl⟩
theorem jw357 : (.instanceMethod y_Wr_putBlank : Cond) ∈ gw := List.mem_filter.mpr ⟨List.mem_append_right _ (List.mem_append_right _ (List.mem_append_right _ (List.mem_append_left _ (List.mem_of_getElem? (i := 193) rfl)))), by rfl⟩
theorem jw358 : (.selects R_Wr y_Wr_putBlank y_Wr_putBlank : Cond) ∈ gw := List.mem_filter.mpr ⟨List.mem_append_left _ (by decide +kernel), by rfl⟩
theorem jw359 : (.methodLink R_Wr 112 y_Wr_putText : Cond) ∈ gw := List.mem_filter.mpr ⟨List.mem_append_right _ (List.mem_append_right _ (List.mem_append_right _ (List.mem_append_left _ (List.mem_of_getElem? (i := 198) rfl)))), by rfl⟩
theorem jw360 : (.code y_Wr_putText b_Wr_putText 3 none : Cond) ∈ gw := List.mem_filter.mpr ⟨List.mem_append_right _ (List.mem_append_right _ (List.mem_append_right _ (List.mem_append_left _ (List.mem_of_getElem? (i := 201) rfl)))), by rfl⟩
theorem jw361 : (.instanceMethod y_Wr_putText : Cond) ∈ gw := List.mem_filter.mpr ⟨List.mem_append_right _ (List.mem_append_right _ (List.mem_append_right _ (List.mem_append_left _ (List.mem_of_getElem? (i := 200) rfl)))), by rfl⟩
theorem jw362 : (.selects R_Wr y_Wr_putText y_Wr_putText : Cond) ∈ gw := List.mem_filter.mpr ⟨List.mem_append_left _ (by decide +kernel), by rfl⟩
theorem jw363 : (.methodLink R_Wr 116 y_Na_lengthOf : Cond) ∈ gw := List.mem_filter.mpr ⟨List.mem_append_right _ (List.mem_append_right _ (List.mem_append_right _ (List.mem_append_left _ (List.mem_of_getElem? (i := 215) rfl)))), by rfl⟩
theorem jw364 : (.methodLink R_Wr 121 y_Na_byteOf : Cond) ∈ gw := List.mem_filter.mpr ⟨List.mem_append_right _ (List.mem_append_right _ (List.mem_append_right _ (List.mem_append_left _ (List.mem_of_getElem? (i := 216) rfl)))), by rfl⟩
theorem jw365 : (.methodLink R_Wr 108 y_To_spelling : Cond) ∈ gw := List.mem_filter.mpr ⟨List.mem_append_right _ (List.mem_append_right _ (List.mem_append_right _ (List.mem_append_left _ (List.mem_of_getElem? (i := 197) rfl)))), by rfl⟩
theorem jw366 : (.methodLink R_Wr 71 y_Tr_kindOf : Cond) ∈ gw := List.mem_filter.mpr ⟨List.mem_append_right _ (List.mem_append_right _ (List.mem_append_right _ (List.mem_append_left _ (List.mem_of_getElem? (i := 170) rfl)))), by rfl⟩
theorem jw367 : (.code y_Tr_kindOf b_Tr_kindOf 2 (some .int) : Cond) ∈ gw := List.mem_filter.mpr ⟨List.mem_append_right _ (List.mem_append_right _ (List.mem_append_right _ (List.mem_append_left _ (List.mem_of_getElem? (i := 173) rfl)))), by rfl⟩
theorem jw368 : (.instanceMethod y_Tr_kindOf : Cond) ∈ gw := List.mem_filter.mpr ⟨List.mem_append_right _ (List.mem_append_right _ (List.mem_append_right _ (List.mem_append_left _ (List.mem_of_getElem? (i := 171) rfl)))), by rfl⟩
theorem jw369 : (.selects R_Tr y_Tr_kindOf y_Tr_kindOf : Cond) ∈ gw := List.mem_filter.mpr ⟨List.mem_append_right _ (List.mem_append_right _ (List.mem_append_right _ (List.mem_append_left _ (List.mem_of_getElem? (i := 172) rfl)))), by rfl⟩
theorem jw370 : (.methodLink R_Wr 54 y_Tr_wholeOf : Cond) ∈ gw := List.mem_filter.mpr ⟨List.mem_append_right _ (List.mem_append_right _ (List.mem_append_right _ (List.mem_append_left _ (List.mem_of_getElem? (i := 183) rfl)))), by rfl⟩
theorem jw371 : (.methodLink R_Wr 96 y_Tr_isFirstPart : Cond) ∈ gw := List.mem_filter.mpr ⟨List.mem_append_right _ (List.mem_append_right _ (List.mem_append_right _ (List.mem_append_left _ (List.mem_of_getElem? (i := 174) rfl)))), by rfl⟩
theorem jw372 : (.code y_Tr_isFirstPart b_Tr_isFirstPart 2 (some .boolean) : Cond) ∈ gw := List.mem_filter.mpr ⟨List.mem_append_right _ (List.mem_append_right _ (List.mem_append_right _ (List.mem_append_left _ (List.mem_of_getElem? (i := 177) rfl)))), by rfl⟩
theorem jw373 : (.instanceMethod y_Tr_isFirstPart : Cond) ∈ gw := List.mem_filter.mpr ⟨List.mem_append_right _ (List.mem_append_right _ (List.mem_append_right _ (List.mem_append_left _ (List.mem_of_getElem? (i := 175) rfl)))), by rfl⟩
theorem jw374 : (.selects R_Tr y_Tr_isFirstPart y_Tr_isFirstPart : Cond) ∈ gw := List.mem_filter.mpr ⟨List.mem_append_right _ (List.mem_append_right _ (List.mem_append_right _ (List.mem_append_left _ (List.mem_of_getElem? (i := 176) rfl)))), by rfl⟩
theorem jw375 : (.methodLink R_Wr 102 y_Ki_isOpenToTheRight : Cond) ∈ gw := List.mem_filter.mpr ⟨List.mem_append_right _ (List.mem_append_right _ (List.mem_append_right _ (List.mem_append_left _ (List.mem_of_getElem? (i := 208) rfl)))), by rfl⟩
theorem jw376 : (.code y_Ki_isOpenToTheRight b_Ki_isOpenToTheRight 1 (some .boolean) : Cond) ∈ gw := List.mem_filter.mpr ⟨List.mem_append_right _ (List.mem_append_right _ (List.mem_append_right _ (List.mem_append_left _ (List.mem_of_getElem? (i := 210) rfl)))), by rfl⟩
theorem jw377 : (.initialized R_Ki : Cond) ∈ gw := List.mem_filter.mpr ⟨List.mem_append_right _ (List.mem_append_left _ (List.mem_of_getElem? (i := 17) rfl)), by rfl⟩
theorem jw378 : (.static y_Ki_isOpenToTheRight : Cond) ∈ gw := List.mem_filter.mpr ⟨List.mem_append_right _ (List.mem_append_right _ (List.mem_append_right _ (List.mem_append_left _ (List.mem_of_getElem? (i := 209) rfl)))), by rfl⟩
theorem jw379 : (.methodLink R_Wr 76 y_Tr_tell : Cond) ∈ gw := List.mem_filter.mpr ⟨List.mem_append_right _ (List.mem_append_right _ (List.mem_append_right _ (List.mem_append_left _ (List.mem_of_getElem? (i := 207) rfl)))), by rfl⟩
theorem jw380 : (.code y_Tr_tell b_Tr_tell 3 (some .int) : Cond) ∈ gw := List.mem_filter.mpr ⟨List.mem_append_right _ (List.mem_append_right _ (List.mem_append_right _ (List.mem_append_left _ (List.mem_of_getElem? (i := 107) rfl)))), by rfl⟩
theorem jw381 : (.instanceMethod y_Tr_tell : Cond) ∈ gw := List.mem_filter.mpr ⟨List.mem_append_right _ (List.mem_append_right _ (List.mem_append_right _ (List.mem_append_left _ (List.mem_of_getElem? (i := 105) rfl)))), by rfl⟩
theorem jw382 : (.selects R_Tr y_Tr_tell y_Tr_tell : Cond) ∈ gw := List.mem_filter.mpr ⟨List.mem_append_right _ (List.mem_append_right _ (List.mem_append_right _ (List.mem_append_left _ (List.mem_of_getElem? (i := 106) rfl)))), by rfl⟩
theorem jw383 : (.methodLink R_Wr 50 y_Tr_isLastPart : Cond) ∈ gw := List.mem_filter.mpr ⟨List.mem_append_right _ (List.mem_append_right _ (List.mem_append_right _ (List.mem_append_left _ (List.mem_of_getElem? (i := 178) rfl)))), by rfl⟩
theorem jw384 : (.code y_Tr_isLastPart b_Tr_isLastPart 3 (some .boolean) : Cond) ∈ gw := List.mem_filter.mpr ⟨List.mem_append_right _ (List.mem_append_right _ (List.mem_append_right _ (List.mem_append_left _ (List.mem_of_getElem? (i := 181) rfl)))), by rfl⟩
theorem jw385 : (.instanceMethod y_Tr_isLastPart : Cond) ∈ gw := List.mem_filter.mpr ⟨List.mem_append_right _ (List.mem_append_right _ (List.mem_append_right _ (List.mem_append_left _ (List.mem_of_getElem? (i := 179) rfl)))), by rfl⟩
theorem jw386 : (.selects R_Tr y_Tr_isLastPart y_Tr_isLastPart : Cond) ∈ gw := List.mem_filter.mpr ⟨List.mem_append_right _ (List.mem_append_right _ (List.mem_append_right _ (List.mem_append_left _ (List.mem_of_getElem? (i := 180) rfl)))), by rfl⟩
theorem jw387 : (.methodLink R_Wr 99 y_Wr_tokenInLet : Cond) ∈ gw := List.mem_filter.mpr ⟨List.mem_append_right _ (List.mem_append_right _ (List.mem_append_right _ (List.mem_append_left _ (List.mem_of_getElem? (i := 184) rfl)))), by rfl⟩
theorem jw388 : (.code y_Wr_tokenInLet b_Wr_tokenInLet 2 (some .int) : Cond) ∈ gw := List.mem_filter.mpr ⟨List.mem_append_right _ (List.mem_append_right _ (List.mem_append_right _ (List.mem_append_left _ (List.mem_of_getElem? (i := 186) rfl)))), by rfl⟩
theorem jw389 : (.static y_Wr_tokenInLet : Cond) ∈ gw := List.mem_filter.mpr ⟨List.mem_append_right _ (List.mem_append_right _ (List.mem_append_right _ (List.mem_append_left _ (List.mem_of_getElem? (i := 185) rfl)))), by rfl⟩
theorem jw390 : (.methodLink R_Wr 65 y_Wr_hasBrackets : Cond) ∈ gw := List.mem_filter.mpr ⟨List.mem_append_right _ (List.mem_append_right _ (List.mem_append_right _ (List.mem_append_left _ (List.mem_of_getElem? (i := 204) rfl)))), by rfl⟩
theorem jw391 : (.code y_Wr_hasBrackets b_Wr_hasBrackets 7 (some .boolean) : Cond) ∈ gw := List.mem_filter.mpr ⟨List.mem_append_right _ (List.mem_append_right _ (List.mem_append_right _ (List.mem_append_left _ (List.mem_of_getElem? (i := 206) rfl)))), by rfl⟩
theorem jw392 : (.static y_Wr_hasBrackets : Cond) ∈ gw := List.mem_filter.mpr ⟨List.mem_append_right _ (List.mem_append_right _ (List.mem_append_right _ (List.mem_append_left _ (List.mem_of_getElem? (i := 205) rfl)))), by rfl⟩
theorem jw393 : (.methodLink R_Wr 61 y_Wr_putToken : Cond) ∈ gw := List.mem_filter.mpr ⟨List.mem_append_right _ (List.mem_append_right _ (List.mem_append_right _ (List.mem_append_left _ (List.mem_of_getElem? (i := 187) rfl)))), by rfl⟩
theorem jw394 : (.code y_Wr_putToken b_Wr_putToken 2 none : Cond) ∈ gw := List.mem_filter.mpr ⟨List.mem_append_right _ (List.mem_append_right _ (List.mem_append_right _ (List.mem_append_left _ (List.mem_of_getElem? (i := 190) rfl)))), by rfl⟩
theorem jw395 : (.instanceMethod y_Wr_putToken : Cond) ∈ gw := List.mem_filter.mpr ⟨List.mem_append_right _ (List.mem_append_right _ (List.mem_append_right _ (List.mem_append_left _ (List.mem_of_getElem? (i := 189) rfl)))), by rfl⟩
theorem jw396 : (.selects R_Wr y_Wr_putToken y_Wr_putToken : Cond) ∈ gw := List.mem_filter.mpr ⟨List.mem_append_left _ (by decide +kernel), by rfl⟩
theorem jw397 : (.methodLink R_Wr 90 y_Wr_isDeclaration : Cond) ∈ gw := List.mem_filter.mpr ⟨List.mem_append_right _ (List.mem_append_right _ (List.mem_append_right _ (List.mem_append_left _ (List.mem_of_getElem? (i := 230) rfl)))), by rfl⟩
theorem jw398 : (.code y_Wr_isDeclaration b_Wr_isDeclaration 1 (some .boolean) : Cond) ∈ gw := List.mem_filter.mpr ⟨List.mem_append_right _ (List.mem_append_right _ (List.mem_append_right _ (List.mem_append_left _ (List.mem_of_getElem? (i := 232) rfl)))), by rfl⟩
theorem jw399 : (.static y_Wr_isDeclaration : Cond) ∈ gw := List.mem_filter.mpr ⟨List.mem_append_right _ (List.mem_append_right _ (List.mem_append_right _ (List.mem_append_left _ (List.mem_of_getElem? (i := 231) rfl)))), by rfl⟩
theorem jw400 : (.methodLink R_Wr 57 y_Wr_tokenBefore : Cond) ∈ gw := List.mem_filter.mpr ⟨List.mem_append_right _ (List.mem_append_right _ (List.mem_append_right _ (List.mem_append_left _ (List.mem_of_getElem? (i := 167) rfl)))), by rfl⟩
theorem jw401 : (.code y_Wr_tokenBefore b_Wr_tokenBefore 4 (some .int) : Cond) ∈ gw := List.mem_filter.mpr ⟨List.mem_append_right _ (List.mem_append_right _ (List.mem_append_right _ (List.mem_append_left _ (List.mem_of_getElem? (i := 169) rfl)))), by rfl⟩
theorem jw402 : (.static y_Wr_tokenBefore : Cond) ∈ gw := List.mem_filter.mpr ⟨List.mem_append_right _ (List.mem_append_right _ (List.mem_append_right _ (List.mem_append_left _ (List.mem_of_getElem? (i := 168) rfl)))), by rfl⟩
theorem jw403 : (.methodLink R_Wr 87 y_Wr_firstWord : Cond) ∈ gw := List.mem_filter.mpr ⟨List.mem_append_right _ (List.mem_append_right _ (List.mem_append_right _ (List.mem_append_left _ (List.mem_of_getElem? (i := 223) rfl)))), by rfl⟩
theorem jw404 : (.code y_Wr_firstWord b_Wr_firstWord 1 (some .int) : Cond) ∈ gw := List.mem_filter.mpr ⟨List.mem_append_right _ (List.mem_append_right _ (List.mem_append_right _ (List.mem_append_left _ (List.mem_of_getElem? (i := 225) rfl)))), by rfl⟩
theorem jw405 : (.static y_Wr_firstWord : Cond) ∈ gw := List.mem_filter.mpr ⟨List.mem_append_right _ (List.mem_append_right _ (List.mem_append_right _ (List.mem_append_left _ (List.mem_of_getElem? (i := 224) rfl)))), by rfl⟩
theorem jw406 : (.methodLink R_Wr 84 y_Wr_putSort : Cond) ∈ gw := List.mem_filter.mpr ⟨List.mem_append_right _ (List.mem_append_right _ (List.mem_append_right _ (List.mem_append_left _ (List.mem_of_getElem? (i := 217) rfl)))), by rfl⟩
theorem jw407 : (.code y_Wr_putSort b_Wr_putSort 3 none : Cond) ∈ gw := List.mem_filter.mpr ⟨List.mem_append_right _ (List.mem_append_right _ (List.mem_append_right _ (List.mem_append_left _ (List.mem_of_getElem? (i := 220) rfl)))), by rfl⟩
theorem jw408 : (.instanceMethod y_Wr_putSort : Cond) ∈ gw := List.mem_filter.mpr ⟨List.mem_append_right _ (List.mem_append_right _ (List.mem_append_right _ (List.mem_append_left _ (List.mem_of_getElem? (i := 219) rfl)))), by rfl⟩
theorem jw409 : (.selects R_Wr y_Wr_putSort y_Wr_putSort : Cond) ∈ gw := List.mem_filter.mpr ⟨List.mem_append_left _ (by decide +kernel), by rfl⟩
theorem jw410 : (.methodLink R_Wr 80 y_Wr_putName : Cond) ∈ gw := List.mem_filter.mpr ⟨List.mem_append_right _ (List.mem_append_right _ (List.mem_append_right _ (List.mem_append_left _ (List.mem_of_getElem? (i := 211) rfl)))), by rfl⟩
theorem jw411 : (.code y_Wr_putName b_Wr_putName 5 none : Cond) ∈ gw := List.mem_filter.mpr ⟨List.mem_append_right _ (List.mem_append_right _ (List.mem_append_right _ (List.mem_append_left _ (List.mem_of_getElem? (i := 214) rfl)))), by rfl⟩
theorem jw412 : (.instanceMethod y_Wr_putName : Cond) ∈ gw := List.mem_filter.mpr ⟨List.mem_append_right _ (List.mem_append_right _ (List.mem_append_right _ (List.mem_append_left _ (List.mem_of_getElem? (i := 213) rfl)))), by rfl⟩
theorem jw413 : (.selects R_Wr y_Wr_putName y_Wr_putName : Cond) ∈ gw := List.mem_filter.mpr ⟨List.mem_append_left _ (by decide +kernel), by rfl⟩
theorem jw414 : (.methodLink R_Wr 36 y_Tr_sizeOf : Cond) ∈ gw := List.mem_filter.mpr ⟨List.mem_append_right _ (List.mem_append_right _ (List.mem_append_right _ (List.mem_append_left _ (List.mem_of_getElem? (i := 159) rfl)))), by rfl⟩
theorem jw415 : (.code y_Tr_sizeOf b_Tr_sizeOf 2 (some .int) : Cond) ∈ gw := List.mem_filter.mpr ⟨List.mem_append_right _ (List.mem_append_right _ (List.mem_append_right _ (List.mem_append_left _ (List.mem_of_getElem? (i := 162) rfl)))), by rfl⟩
theorem jw416 : (.instanceMethod y_Tr_sizeOf : Cond) ∈ gw := List.mem_filter.mpr ⟨List.mem_append_right _ (List.mem_append_right _ (List.mem_append_right _ (List.mem_append_left _ (List.mem_of_getElem? (i := 160) rfl)))), by rfl⟩
theorem jw417 : (.selects R_Tr y_Tr_sizeOf y_Tr_sizeOf : Cond) ∈ gw := List.mem_filter.mpr ⟨List.mem_append_right _ (List.mem_append_right _ (List.mem_append_right _ (List.mem_append_left _ (List.mem_of_getElem? (i := 161) rfl)))), by rfl⟩
theorem jw418 : (.fieldLink R_Wr 28 "TermReader$Bytes" "overrun" "Z" : Cond) ∈ gw := List.mem_filter.mpr ⟨List.mem_append_right _ (List.mem_append_left _ (List.mem_of_getElem? (i := 38) rfl)), by rfl⟩
theorem jw419 : (.methodLink R_Wr 46 y_Wr_leave : Cond) ∈ gw := List.mem_filter.mpr ⟨List.mem_append_right _ (List.mem_append_right _ (List.mem_append_right _ (List.mem_append_left _ (List.mem_of_getElem? (i := 226) rfl)))), by rfl⟩
theorem jw420 : (.code y_Wr_leave b_Wr_leave 4 none : Cond) ∈ gw := List.mem_filter.mpr ⟨List.mem_append_right _ (List.mem_append_right _ (List.mem_append_right _ (List.mem_append_left _ (List.mem_of_getElem? (i := 229) rfl)))), by rfl⟩
theorem jw421 : (.instanceMethod y_Wr_leave : Cond) ∈ gw := List.mem_filter.mpr ⟨List.mem_append_right _ (List.mem_append_right _ (List.mem_append_right _ (List.mem_append_left _ (List.mem_of_getElem? (i := 228) rfl)))), by rfl⟩
theorem jw422 : (.selects R_Wr y_Wr_leave y_Wr_leave : Cond) ∈ gw := List.mem_filter.mpr ⟨List.mem_append_left _ (by decide +kernel), by rfl⟩
theorem jw423 : (.methodLink R_Wr 42 y_Wr_enter : Cond) ∈ gw := List.mem_filter.mpr ⟨List.mem_append_right _ (List.mem_append_right _ (List.mem_append_right _ (List.mem_append_left _ (List.mem_of_getElem? (i := 163) rfl)))), by rfl⟩
theorem jw424 : (.code y_Wr_enter b_Wr_enter 6 none : Cond) ∈ gw := List.mem_filter.mpr ⟨List.mem_append_right _ (List.mem_append_right _ (List.mem_append_right _ (List.mem_append_left _ (List.mem_of_getElem? (i := 166) rfl)))), by rfl⟩
theorem jw425 : (.instanceMethod y_Wr_enter : Cond) ∈ gw := List.mem_filter.mpr ⟨List.mem_append_right _ (List.mem_append_right _ (List.mem_append_right _ (List.mem_append_left _ (List.mem_of_getElem? (i := 165) rfl)))), by rfl⟩
theorem jw426 : (.selects R_Wr y_Wr_enter y_Wr_enter : Cond) ∈ gw := List.mem_filter.mpr ⟨List.mem_append_left _ (by decide +kernel), by rfl⟩
theorem jw427 : (.methodLink R_Wr 21 y_By_clear : Cond) ∈ gw := List.mem_filter.mpr ⟨List.mem_append_right _ (List.mem_append_right _ (List.mem_append_right _ (List.mem_append_left _ (List.mem_of_getElem? (i := 154) rfl)))), by rfl⟩
theorem jw428 : (.code y_By_clear b_By_clear 1 none : Cond) ∈ gw := List.mem_filter.mpr ⟨List.mem_append_right _ (List.mem_append_right _ (List.mem_append_right _ (List.mem_append_left _ (List.mem_of_getElem? (i := 103) rfl)))), by rfl⟩
theorem jw429 : (.instanceMethod y_By_clear : Cond) ∈ gw := List.mem_filter.mpr ⟨List.mem_append_right _ (List.mem_append_right _ (List.mem_append_right _ (List.mem_append_left _ (List.mem_of_getElem? (i := 101) rfl)))), by rfl⟩
theorem jw430 : (.selects R_By y_By_clear y_By_clear : Cond) ∈ gw := List.mem_filter.mpr ⟨List.mem_append_right _ (List.mem_append_right _ (List.mem_append_right _ (List.mem_append_left _ (List.mem_of_getElem? (i := 102) rfl)))), by rfl⟩
theorem jw431 : (.methodLink R_Wr 24 y_Wr_walk : Cond) ∈ gw := List.mem_filter.mpr ⟨List.mem_append_right _ (List.mem_append_right _ (List.mem_append_right _ (List.mem_append_left _ (List.mem_of_getElem? (i := 155) rfl)))), by rfl⟩
theorem jw432 : (.code y_Wr_walk b_Wr_walk 8 none : Cond) ∈ gw := List.mem_filter.mpr ⟨List.mem_append_right _ (List.mem_append_right _ (List.mem_append_right _ (List.mem_append_left _ (List.mem_of_getElem? (i := 158) rfl)))), by rfl⟩
theorem jw433 : (.instanceMethod y_Wr_walk : Cond) ∈ gw := List.mem_filter.mpr ⟨List.mem_append_right _ (List.mem_append_right _ (List.mem_append_right _ (List.mem_append_left _ (List.mem_of_getElem? (i := 157) rfl)))), by rfl⟩
theorem jw434 : (.selects R_Wr y_Wr_walk y_Wr_walk : Cond) ∈ gw := List.mem_filter.mpr ⟨List.mem_append_left _ (by decide +kernel), by rfl⟩
theorem jw435 : (.methodLink R_TR 3 objectInit : Cond) ∈ gw := List.mem_filter.mpr ⟨List.mem_append_right _ (List.mem_append_left _ (List.mem_of_getElem? (i := 24) rfl)), by rfl⟩
theorem jw436 : (.classLink R_TR 9 R_By : Cond) ∈ gw := List.mem_filter.mpr ⟨List.mem_append_right _ (List.mem_append_left _ (List.mem_of_getElem? (i := 27) rfl)), by rfl⟩
theorem jw437 : (.methodLink R_TR 11 y_By_init : Cond) ∈ gw := List.mem_filter.mpr ⟨List.mem_append_right _ (List.mem_append_left _ (List.mem_of_getElem? (i := 29) rfl)), by rfl⟩
theorem jw438 : (.fieldLink R_TR 12 "TermReader" "fed" "LTermReader$Bytes;" : Cond) ∈ gw := List.mem_filter.mpr ⟨List.mem_append_right _ (List.mem_append_left _ (List.mem_of_getElem? (i := 199) rfl)), by rfl⟩
theorem jw439 : (.classLink R_TR 16 R_Na : Cond) ∈ gw := List.mem_filter.mpr ⟨List.mem_append_right _ (List.mem_append_left _ (List.mem_of_getElem? (i := 47) rfl)), by rfl⟩
theorem jw440 : (.instantiable R_Na 5 : Cond) ∈ gw := List.mem_filter.mpr ⟨List.mem_append_right _ (List.mem_append_left _ (List.mem_of_getElem? (i := 48) rfl)), by rfl⟩
theorem jw441 : (.methodLink R_TR 18 y_Na_init : Cond) ∈ gw := List.mem_filter.mpr ⟨List.mem_append_right _ (List.mem_append_left _ (List.mem_of_getElem? (i := 49) rfl)), by rfl⟩
theorem jw442 : (.code y_Na_init b_Na_init 1 none : Cond) ∈ gw := List.mem_filter.mpr ⟨List.mem_append_right _ (List.mem_append_left _ (List.mem_of_getElem? (i := 51) rfl)), by rfl⟩
theorem jw443 : (.instanceMethod y_Na_init : Cond) ∈ gw := List.mem_filter.mpr ⟨List.mem_append_right _ (List.mem_append_left _ (List.mem_of_getElem? (i := 50) rfl)), by rfl⟩
theorem jw444 : (.fieldLink R_TR 19 "TermReader" "known" "LTermReader$Names;" : Cond) ∈ gw := List.mem_filter.mpr ⟨List.mem_append_right _ (List.mem_append_left _ (List.mem_of_getElem? (i := 200) rfl)), by rfl⟩
theorem jw445 : (.classLink R_TR 23 R_Tr : Cond) ∈ gw := List.mem_filter.mpr ⟨List.mem_append_right _ (List.mem_append_left _ (List.mem_of_getElem? (i := 71) rfl)), by rfl⟩
theorem jw446 : (.instantiable R_Tr 7 : Cond) ∈ gw := List.mem_filter.mpr ⟨List.mem_append_right _ (List.mem_append_left _ (List.mem_of_getElem? (i := 72) rfl)), by rfl⟩
theorem jw447 : (.methodLink R_TR 25 y_Tr_init : Cond) ∈ gw := List.mem_filter.mpr ⟨List.mem_append_right _ (List.mem_append_left _ (List.mem_of_getElem? (i := 73) rfl)), by rfl⟩
theorem jw448 : (.code y_Tr_init b_Tr_init 1 none : Cond) ∈ gw := List.mem_filter.mpr ⟨List.mem_append_right _ (List.mem_append_left _ (List.mem_of_getElem? (i := 75) rfl)), by rfl⟩
theorem jw449 : (.instanceMethod y_Tr_init : Cond) ∈ gw := List.mem_filter.mpr ⟨List.mem_append_right _ (List.mem_append_left _ (List.mem_of_getElem? (i := 74) rfl)), by rfl⟩
theorem jw450 : (.fieldLink R_TR 26 "TermReader" "first" "LTermReader$Tree;" : Cond) ∈ gw := List.mem_filter.mpr ⟨List.mem_append_right _ (List.mem_append_left _ (List.mem_of_getElem? (i := 201) rfl)), by rfl⟩
theorem jw451 : (.fieldLink R_TR 30 "TermReader" "second" "LTermReader$Tree;" : Cond) ∈ gw := List.mem_filter.mpr ⟨List.mem_append_right _ (List.mem_append_left _ (List.mem_of_getElem? (i := 202) rfl)), by rfl⟩
theorem jw452 : (.classLink R_TR 33 R_Pa : Cond) ∈ gw := List.mem_filter.mpr ⟨List.mem_append_right _ (List.mem_append_left _ (List.mem_of_getElem? (i := 100) rfl)), by rfl⟩
theorem jw453 : (.instantiable R_Pa 8 : Cond) ∈ gw := List.mem_filter.mpr ⟨List.mem_append_right _ (List.mem_append_left _ (List.mem_of_getElem? (i := 101) rfl)), by rfl⟩
theorem jw454 : (.methodLink R_TR 35 y_Pa_init : Cond) ∈ gw := List.mem_filter.mpr ⟨List.mem_append_right _ (List.mem_append_left _ (List.mem_of_getElem? (i := 102) rfl)), by rfl⟩
theorem jw455 : (.code y_Pa_init b_Pa_init 1 none : Cond) ∈ gw := List.mem_filter.mpr ⟨List.mem_append_right _ (List.mem_append_left _ (List.mem_of_getElem? (i := 104) rfl)), by rfl⟩
theorem jw456 : (.instanceMethod y_Pa_init : Cond) ∈ gw := List.mem_filter.mpr ⟨List.mem_append_right _ (List.mem_append_left _ (List.mem_of_getElem? (i := 103) rfl)), by rfl⟩
theorem jw457 : (.fieldLink R_TR 36 "TermReader" "parser" "LTermReader$Parser;" : Cond) ∈ gw := List.mem_filter.mpr ⟨List.mem_append_right _ (List.mem_append_left _ (List.mem_of_getElem? (i := 203) rfl)), by rfl⟩
theorem jw458 : (.classLink R_TR 40 R_Wr : Cond) ∈ gw := List.mem_filter.mpr ⟨List.mem_append_right _ (List.mem_append_left _ (List.mem_of_getElem? (i := 183) rfl)), by rfl⟩
theorem jw459 : (.instantiable R_Wr 2 : Cond) ∈ gw := List.mem_filter.mpr ⟨List.mem_append_right _ (List.mem_append_left _ (List.mem_of_getElem? (i := 184) rfl)), by rfl⟩
theorem jw460 : (.methodLink R_TR 42 y_Wr_init : Cond) ∈ gw := List.mem_filter.mpr ⟨List.mem_append_right _ (List.mem_append_left _ (List.mem_of_getElem? (i := 185) rfl)), by rfl⟩
theorem jw461 : (.code y_Wr_init b_Wr_init 1 none : Cond) ∈ gw := List.mem_filter.mpr ⟨List.mem_append_right _ (List.mem_append_left _ (List.mem_of_getElem? (i := 187) rfl)), by rfl⟩
theorem jw462 : (.instanceMethod y_Wr_init : Cond) ∈ gw := List.mem_filter.mpr ⟨List.mem_append_right _ (List.mem_append_left _ (List.mem_of_getElem? (i := 186) rfl)), by rfl⟩
theorem jw463 : (.fieldLink R_TR 43 "TermReader" "writer" "LTermReader$Writer;" : Cond) ∈ gw := List.mem_filter.mpr ⟨List.mem_append_right _ (List.mem_append_left _ (List.mem_of_getElem? (i := 204) rfl)), by rfl⟩
theorem jw464 : (.fieldLink R_TR 47 "TermReader" "lastFault" "I" : Cond) ∈ gw := List.mem_filter.mpr ⟨List.mem_append_right _ (List.mem_append_left _ (List.mem_of_getElem? (i := 205) rfl)), by rfl⟩
theorem jw465 : (.fieldLink R_TR 51 "TermReader$Bytes" "length" "I" : Cond) ∈ gw := List.mem_filter.mpr ⟨List.mem_append_right _ (List.mem_append_left _ (List.mem_of_getElem? (i := 35) rfl)), by rfl⟩
theorem jw466 : (.methodLink R_TR 54 y_By_putFour : Cond) ∈ gw := List.mem_filter.mpr ⟨List.mem_append_right _ (List.mem_append_left _ (List.mem_of_getElem? (i := 225) rfl)), by rfl⟩
theorem jw467 : (.code y_By_putFour b_By_putFour 2 none : Cond) ∈ gw := List.mem_filter.mpr ⟨List.mem_append_right _ (List.mem_append_left _ (List.mem_of_getElem? (i := 228) rfl)), by rfl⟩
theorem jw468 : (.instanceMethod y_By_putFour : Cond) ∈ gw := List.mem_filter.mpr ⟨List.mem_append_right _ (List.mem_append_left _ (List.mem_of_getElem? (i := 226) rfl)), by rfl⟩
theorem jw469 : (.selects R_By y_By_putFour y_By_putFour : Cond) ∈ gw := List.mem_filter.mpr ⟨List.mem_append_right _ (List.mem_append_left _ (List.mem_of_getElem? (i := 227) rfl)), by rfl⟩
theorem jw470 : (.methodLink R_TR 58 y_TR_treeOf : Cond) ∈ gw := List.mem_filter.mpr ⟨List.mem_append_right _ (List.mem_append_left _ (List.mem_of_getElem? (i := 237) rfl)), by rfl⟩
theorem jw471 : (.code y_TR_treeOf b_TR_treeOf 2 (some (.object "TermReader$Tree")) : Cond) ∈ gw := List.mem_filter.mpr ⟨List.mem_append_right _ (List.mem_append_right _ (List.mem_append_left _ (List.mem_of_getElem? (i := 0) rfl))), by rfl⟩
theorem jw472 : (.initialized R_TR : Cond) ∈ gw := List.mem_filter.mpr ⟨List.mem_append_right _ (List.mem_append_left _ (List.mem_of_getElem? (i := 1) rfl)), by rfl⟩
theorem jw473 : (.instanceMethod y_TR_treeOf : Cond) ∈ gw := List.mem_filter.mpr ⟨List.mem_append_right _ (List.mem_append_left _ (List.mem_of_getElem? (i := 239) rfl)), by rfl⟩
theorem jw474 : (.selects R_TR y_TR_treeOf y_TR_treeOf : Cond) ∈ gw := List.mem_filter.mpr ⟨List.mem_append_left _ (by decide +kernel), by rfl⟩
theorem jw475 : (.methodLink R_TR 62 y_Pa_parse : Cond) ∈ gw := List.mem_filter.mpr ⟨List.mem_append_right _ (List.mem_append_right _ (List.mem_append_left _ (List.mem_of_getElem? (i := 1) rfl))), by rfl⟩
theorem jw476 : (.code y_Pa_parse b_Pa_parse 6 (some .int) : Cond) ∈ gw := List.mem_filter.mpr ⟨List.mem_append_right _ (List.mem_append_right _ (List.mem_append_left _ (List.mem_of_getElem? (i := 4) rfl))), by rfl⟩
theorem jw477 : (.instanceMethod y_Pa_parse : Cond) ∈ gw := List.mem_filter.mpr ⟨List.mem_append_right _ (List.mem_append_right _ (List.mem_append_left _ (List.mem_of_getElem? (i := 2) rfl))), by rfl⟩
theorem jw478 : (.selects R_Pa y_Pa_parse y_Pa_parse : Cond) ∈ gw := List.mem_filter.mpr ⟨List.mem_append_right _ (List.mem_append_right _ (List.mem_append_left _ (List.mem_of_getElem? (i := 3) rfl))), by rfl⟩
theorem jw479 : (.fieldLink R_TR 66 "TermReader$Parser" "growth" "LTermReader$Growth;" : Cond) ∈ gw := List.mem_filter.mpr ⟨List.mem_append_right _ (List.mem_append_left _ (List.mem_of_getElem? (i := 159) rfl)), by rfl⟩
theorem jw480 : (.methodLink R_TR 70 y_Gr_layOut : Cond) ∈ gw := List.mem_filter.mpr ⟨List.mem_append_right _ (List.mem_append_right _ (List.mem_append_right _ (List.mem_append_left _ (List.mem_of_getElem? (i := 45) rfl)))), by rfl⟩
theorem jw481 : (.code y_Gr_layOut b_Gr_layOut 3 none : Cond) ∈ gw := List.mem_filter.mpr ⟨List.mem_append_right _ (List.mem_append_right _ (List.mem_append_right _ (List.mem_append_left _ (List.mem_of_getElem? (i := 48) rfl)))), by rfl⟩
theorem jw482 : (.instanceMethod y_Gr_layOut : Cond) ∈ gw := List.mem_filter.mpr ⟨List.mem_append_right _ (List.mem_append_right _ (List.mem_append_right _ (List.mem_append_left _ (List.mem_of_getElem? (i := 46) rfl)))), by rfl⟩
theorem jw483 : (.selects R_Gr y_Gr_layOut y_Gr_layOut : Cond) ∈ gw := List.mem_filter.mpr ⟨List.mem_append_right _ (List.mem_append_right _ (List.mem_append_right _ (List.mem_append_left _ (List.mem_of_getElem? (i := 47) rfl)))), by rfl⟩
theorem jw484 : (.methodLink R_TR 76 y_Tr_numberNames : Cond) ∈ gw := List.mem_filter.mpr ⟨List.mem_append_right _ (List.mem_append_right _ (List.mem_append_right _ (List.mem_append_left _ (List.mem_of_getElem? (i := 72) rfl)))), by rfl⟩
theorem jw485 : (.code y_Tr_numberNames b_Tr_numberNames 4 none : Cond) ∈ gw := List.mem_filter.mpr ⟨List.mem_append_right _ (List.mem_append_right _ (List.mem_append_right _ (List.mem_append_left _ (List.mem_of_getElem? (i := 75) rfl)))), by rfl⟩
theorem jw486 : (.instanceMethod y_Tr_numberNames : Cond) ∈ gw := List.mem_filter.mpr ⟨List.mem_append_right _ (List.mem_append_right _ (List.mem_append_right _ (List.mem_append_left _ (List.mem_of_getElem? (i := 73) rfl)))), by rfl⟩
theorem jw487 : (.selects R_Tr y_Tr_numberNames y_Tr_numberNames : Cond) ∈ gw := List.mem_filter.mpr ⟨List.mem_append_right _ (List.mem_append_right _ (List.mem_append_right _ (List.mem_append_left _ (List.mem_of_getElem? (i := 74) rfl)))), by rfl⟩
theorem jw488 : (.methodLink R_TR 80 y_By_clear : Cond) ∈ gw := List.mem_filter.mpr ⟨List.mem_append_right _ (List.mem_append_right _ (List.mem_append_right _ (List.mem_append_left _ (List.mem_of_getElem? (i := 100) rfl)))), by rfl⟩
theorem jw489 : (.methodLink R_TR 83 y_Tr_tell : Cond) ∈ gw := List.mem_filter.mpr ⟨List.mem_append_right _ (List.mem_append_right _ (List.mem_append_right _ (List.mem_append_left _ (List.mem_of_getElem? (i := 104) rfl)))), by rfl⟩
theorem jw490 : (.fieldLink R_TR 87 "TermReader$Tree" "count" "I" : Cond) ∈ gw := List.mem_filter.mpr ⟨List.mem_append_right _ (List.mem_append_left _ (List.mem_of_getElem? (i := 84) rfl)), by rfl⟩
theorem jw491 : (.methodLink R_TR 90 y_Tr_partOf : Cond) ∈ gw := List.mem_filter.mpr ⟨List.mem_append_right _ (List.mem_append_right _ (List.mem_append_right _ (List.mem_append_left _ (List.mem_of_getElem? (i := 124) rfl)))), by rfl⟩
theorem jw492 : (.code y_Tr_partOf b_Tr_partOf 5 (some .int) : Cond) ∈ gw := List.mem_filter.mpr ⟨List.mem_append_right _ (List.mem_append_right _ (List.mem_append_right _ (List.mem_append_left _ (List.mem_of_getElem? (i := 127) rfl)))), by rfl⟩
theorem jw493 : (.instanceMethod y_Tr_partOf : Cond) ∈ gw := List.mem_filter.mpr ⟨List.mem_append_right _ (List.mem_append_right _ (List.mem_append_right _ (List.mem_append_left _ (List.mem_of_getElem? (i := 125) rfl)))), by rfl⟩
theorem jw494 : (.selects R_Tr y_Tr_partOf y_Tr_partOf : Cond) ∈ gw := List.mem_filter.mpr ⟨List.mem_append_right _ (List.mem_append_right _ (List.mem_append_right _ (List.mem_append_left _ (List.mem_of_getElem? (i := 126) rfl)))), by rfl⟩
theorem jw495 : (.methodLink R_TR 93 y_Tr_wholeOf : Cond) ∈ gw := List.mem_filter.mpr ⟨List.mem_append_right _ (List.mem_append_right _ (List.mem_append_right _ (List.mem_append_left _ (List.mem_of_getElem? (i := 132) rfl)))), by rfl⟩
theorem jw496 : (.fieldLink R_TR 97 "TermReader$Names" "count" "I" : Cond) ∈ gw := List.mem_filter.mpr ⟨List.mem_append_right _ (List.mem_append_left _ (List.mem_of_getElem? (i := 58) rfl)), by rfl⟩
theorem jw497 : (.methodLink R_TR 98 y_Na_byteOf : Cond) ∈ gw := List.mem_filter.mpr ⟨List.mem_append_right _ (List.mem_append_right _ (List.mem_append_right _ (List.mem_append_left _ (List.mem_of_getElem? (i := 144) rfl)))), by rfl⟩
theorem jw498 : (.fieldLink R_TR 109 "TermReader$Writer" "shown" "LTermReader$Bytes;" : Cond) ∈ gw := List.mem_filter.mpr ⟨List.mem_append_right _ (List.mem_append_left _ (List.mem_of_getElem? (i := 192) rfl)), by rfl⟩
theorem jw499 : (.methodLink R_TR 112 y_By_at : Cond) ∈ gw := List.mem_filter.mpr ⟨List.mem_append_right _ (List.mem_append_right _ (List.mem_append_right _ (List.mem_append_left _ (List.mem_of_getElem? (i := 237) rfl)))), by rfl⟩
theorem jw500 : (.methodLink R_TR 115 y_By_copy : Cond) ∈ gw := List.mem_filter.mpr ⟨List.mem_append_right _ (List.mem_append_right _ (List.mem_append_right _ (List.mem_append_right _ (List.mem_append_left _ (List.mem_of_getElem? (i := 2) rfl))))), by rfl⟩
theorem jw501 : (.code y_By_copy b_By_copy 2 none : Cond) ∈ gw := List.mem_filter.mpr ⟨List.mem_append_right _ (List.mem_append_right _ (List.mem_append_right _ (List.mem_append_right _ (List.mem_append_left _ (List.mem_of_getElem? (i := 5) rfl))))), by rfl⟩
theorem jw502 : (.instanceMethod y_By_copy : Cond) ∈ gw := List.mem_filter.mpr ⟨List.mem_append_right _ (List.mem_append_right _ (List.mem_append_right _ (List.mem_append_right _ (List.mem_append_left _ (List.mem_of_getElem? (i := 3) rfl))))), by rfl⟩
theorem jw503 : (.selects R_By y_By_copy y_By_copy : Cond) ∈ gw := List.mem_filter.mpr ⟨List.mem_append_right _ (List.mem_append_right _ (List.mem_append_right _ (List.mem_append_right _ (List.mem_append_left _ (List.mem_of_getElem? (i := 4) rfl))))), by rfl⟩
theorem jw504 : (.methodLink R_TR 119 y_Tr_equalsButForPlaces : Cond) ∈ gw := List.mem_filter.mpr ⟨List.mem_append_right _ (List.mem_append_right _ (List.mem_append_right _ (List.mem_append_right _ (List.mem_append_left _ (List.mem_of_getElem? (i := 13) rfl))))), by rfl⟩
theorem jw505 : (.code y_Tr_equalsButForPlaces b_Tr_equalsButForPlaces 3 (some .boolean) : Cond) ∈ gw := List.mem_filter.mpr ⟨List.mem_append_right _ (List.mem_append_right _ (List.mem_append_right _ (List.mem_append_right _ (List.mem_append_left _ (List.mem_of_getElem? (i := 16) rfl))))), by rfl⟩
theorem jw506 : (.instanceMethod y_Tr_equalsButForPlaces : Cond) ∈ gw := List.mem_filter.mpr ⟨List.mem_append_right _ (List.mem_append_right _ (List.mem_append_right _ (List.mem_append_right _ (List.mem_append_left _ (List.mem_of_getElem? (i := 14) rfl))))), by rfl⟩
theorem jw507 : (.selects R_Tr y_Tr_equalsButForPlaces y_Tr_equalsButForPlaces : Cond) ∈ gw := List.mem_filter.mpr ⟨List.mem_append_right _ (List.mem_append_right _ (List.mem_append_right _ (List.mem_append_right _ (List.mem_append_left _ (List.mem_of_getElem? (i := 15) rfl))))), by rfl⟩
theorem jw508 : (.methodLink R_TR 101 y_Tr_has : Cond) ∈ gw := List.mem_filter.mpr ⟨List.mem_append_right _ (List.mem_append_right _ (List.mem_append_right _ (List.mem_append_left _ (List.mem_of_getElem? (i := 149) rfl)))), by rfl⟩
theorem jw509 : (.methodLink R_TR 105 y_Wr_show : Cond) ∈ gw := List.mem_filter.mpr ⟨List.mem_append_right _ (List.mem_append_right _ (List.mem_append_right _ (List.mem_append_left _ (List.mem_of_getElem? (i := 150) rfl)))), by rfl⟩
theorem jw510 : (.code y_Wr_show b_Wr_show 5 (some .int) : Cond) ∈ gw := List.mem_filter.mpr ⟨List.mem_append_right _ (List.mem_append_right _ (List.mem_append_right _ (List.mem_append_left _ (List.mem_of_getElem? (i := 153) rfl)))), by rfl⟩
theorem jw511 : (.instanceMethod y_Wr_show : Cond) ∈ gw := List.mem_filter.mpr ⟨List.mem_append_right _ (List.mem_append_right _ (List.mem_append_right _ (List.mem_append_left _ (List.mem_of_getElem? (i := 151) rfl)))), by rfl⟩
theorem jw512 : (.selects R_Wr y_Wr_show y_Wr_show : Cond) ∈ gw := List.mem_filter.mpr ⟨List.mem_append_right _ (List.mem_append_right _ (List.mem_append_right _ (List.mem_append_left _ (List.mem_of_getElem? (i := 152) rfl)))), by rfl⟩
theorem jw513 : (.fieldLink R_Mo 96 "TermReaderModel" "count" "[I" : Cond) ∈ gw := List.mem_filter.mpr ⟨List.mem_append_right _ (List.mem_append_right _ (List.mem_append_right _ (List.mem_append_right _ (List.mem_append_left _ (List.mem_of_getElem? (i := 72) rfl))))), by rfl⟩
theorem jw514 : (.fieldLink R_Mo 81 "TermReaderModel" "kind" "[I" : Cond) ∈ gw := List.mem_filter.mpr ⟨List.mem_append_right _ (List.mem_append_right _ (List.mem_append_right _ (List.mem_append_right _ (List.mem_append_left _ (List.mem_of_getElem? (i := 67) rfl))))), by rfl⟩
theorem jw515 : (.fieldLink R_Mo 84 "TermReaderModel" "where" "[I" : Cond) ∈ gw := List.mem_filter.mpr ⟨List.mem_append_right _ (List.mem_append_right _ (List.mem_append_right _ (List.mem_append_right _ (List.mem_append_left _ (List.mem_of_getElem? (i := 68) rfl))))), by rfl⟩
theorem jw516 : (.fieldLink R_Mo 87 "TermReaderModel" "value" "[I" : Cond) ∈ gw := List.mem_filter.mpr ⟨List.mem_append_right _ (List.mem_append_right _ (List.mem_append_right _ (List.mem_append_right _ (List.mem_append_left _ (List.mem_of_getElem? (i := 69) rfl))))), by rfl⟩
theorem jw517 : (.fieldLink R_Mo 90 "TermReaderModel" "whole" "[I" : Cond) ∈ gw := List.mem_filter.mpr ⟨List.mem_append_right _ (List.mem_append_right _ (List.mem_append_right _ (List.mem_append_right _ (List.mem_append_left _ (List.mem_of_getElem? (i := 70) rfl))))), by rfl⟩
theorem jw518 : (.fieldLink R_Mo 93 "TermReaderModel" "sizes" "[I" : Cond) ∈ gw := List.mem_filter.mpr ⟨List.mem_append_right _ (List.mem_append_right _ (List.mem_append_right _ (List.mem_append_right _ (List.mem_append_left _ (List.mem_of_getElem? (i := 71) rfl))))), by rfl⟩
theorem jw519 : (.methodLink R_Mo 109 y_Mo_add : Cond) ∈ gw := List.mem_filter.mpr ⟨List.mem_append_right _ (List.mem_append_right _ (List.mem_append_right _ (List.mem_append_right _ (List.mem_append_left _ (List.mem_of_getElem? (i := 40) rfl))))), by rfl⟩
theorem jw520 : (.code y_Mo_add b_Mo_add 8 (some .int) : Cond) ∈ gw := List.mem_filter.mpr ⟨List.mem_append_right _ (List.mem_append_right _ (List.mem_append_right _ (List.mem_append_right _ (List.mem_append_left _ (List.mem_of_getElem? (i := 43) rfl))))), by rfl⟩
theorem jw521 : (.initialized R_Mo : Cond) ∈ gw := List.mem_filter.mpr ⟨List.mem_append_right _ (List.mem_append_left _ (List.mem_of_getElem? (i := 9) rfl)), by rfl⟩
theorem jw522 : (.instanceMethod y_Mo_add : Cond) ∈ gw := List.mem_filter.mpr ⟨List.mem_append_right _ (List.mem_append_right _ (List.mem_append_right _ (List.mem_append_right _ (List.mem_append_left _ (List.mem_of_getElem? (i := 42) rfl))))), by rfl⟩
theorem jw523 : (.selects R_Mo y_Mo_add y_Mo_add : Cond) ∈ gw := List.mem_filter.mpr ⟨List.mem_append_left _ (by decide +kernel), by rfl⟩
theorem jw524 : (.methodLink R_Mo 1 objectInit : Cond) ∈ gw := List.mem_filter.mpr ⟨List.mem_append_right _ (List.mem_append_right _ (List.mem_append_right _ (List.mem_append_right _ (List.mem_append_left _ (List.mem_of_getElem? (i := 22) rfl))))), by rfl⟩
theorem jw525 : (.classLink R_Mo 7 "java/lang/String" : Cond) ∈ gw := List.mem_filter.mpr ⟨List.mem_append_right _ (List.mem_append_right _ (List.mem_append_right _ (List.mem_append_right _ (List.mem_append_left _ (List.mem_of_getElem? (i := 23) rfl))))), by rfl⟩
theorem jw526 : (.fieldLink R_Mo 31 "TermReaderModel" "words" "[Ljava/lang/String;" : Cond) ∈ gw := List.mem_filter.mpr ⟨List.mem_append_right _ (List.mem_append_right _ (List.mem_append_right _ (List.mem_append_right _ (List.mem_append_left _ (List.mem_of_getElem? (i := 44) rfl))))), by rfl⟩
theorem jw527 : (.fieldLink R_Mo 37 "TermReaderModel" "bytes" "[I" : Cond) ∈ gw := List.mem_filter.mpr ⟨List.mem_append_right _ (List.mem_append_right _ (List.mem_append_right _ (List.mem_append_right _ (List.mem_append_left _ (List.mem_of_getElem? (i := 45) rfl))))), by rfl⟩
theorem jw528 : (.fieldLink R_Mo 41 "TermReaderModel" "written" "[I" : Cond) ∈ gw := List.mem_filter.mpr ⟨List.mem_append_right _ (List.mem_append_right _ (List.mem_append_right _ (List.mem_append_right _ (List.mem_append_left _ (List.mem_of_getElem? (i := 48) rfl))))), by rfl⟩
theorem jw529 : (.fieldLink R_Mo 44 "TermReaderModel" "out" "[I" : Cond) ∈ gw := List.mem_filter.mpr ⟨List.mem_append_right _ (List.mem_append_right _ (List.mem_append_right _ (List.mem_append_right _ (List.mem_append_left _ (List.mem_of_getElem? (i := 50) rfl))))), by rfl⟩
theorem jw530 : (.fieldLink R_Mo 47 "TermReaderModel" "token" "[I" : Cond) ∈ gw := List.mem_filter.mpr ⟨List.mem_append_right _ (List.mem_append_right _ (List.mem_append_right _ (List.mem_append_right _ (List.mem_append_left _ (List.mem_of_getElem? (i := 52) rfl))))), by rfl⟩
theorem jw531 : (.fieldLink R_Mo 50 "TermReaderModel" "place" "[I" : Cond) ∈ gw := List.mem_filter.mpr ⟨List.mem_append_right _ (List.mem_append_right _ (List.mem_append_right _ (List.mem_append_right _ (List.mem_append_left _ (List.mem_of_getElem? (i := 53) rfl))))), by rfl⟩
theorem jw532 : (.fieldLink R_Mo 53 "TermReaderModel" "length" "[I" : Cond) ∈ gw := List.mem_filter.mpr ⟨List.mem_append_right _ (List.mem_append_right _ (List.mem_append_right _ (List.mem_append_right _ (List.mem_append_left _ (List.mem_of_getElem? (i := 54) rfl))))), by rfl⟩
theorem jw533 : (.fieldLink R_Mo 56 "TermReaderModel" "fault" "I" : Cond) ∈ gw := List.mem_filter.mpr ⟨List.mem_append_right _ (List.mem_append_right _ (List.mem_append_right _ (List.mem_append_right _ (List.mem_append_left _ (List.mem_of_getElem? (i := 58) rfl))))), by rfl⟩
theorem jw534 : (.fieldLink R_Mo 60 "TermReaderModel" "kindOf" "[I" : Cond) ∈ gw := List.mem_filter.mpr ⟨List.mem_append_right _ (List.mem_append_right _ (List.mem_append_right _ (List.mem_append_right _ (List.mem_append_left _ (List.mem_of_getElem? (i := 59) rfl))))), by rfl⟩
theorem jw535 : (.fieldLink R_Mo 63 "TermReaderModel" "placeOf" "[I" : Cond) ∈ gw := List.mem_filter.mpr ⟨List.mem_append_right _ (List.mem_append_right _ (List.mem_append_right _ (List.mem_append_right _ (List.mem_append_left _ (List.mem_of_getElem? (i := 60) rfl))))), by rfl⟩
theorem jw536 : (.fieldLink R_Mo 66 "TermReaderModel" "valueOf" "[I" : Cond) ∈ gw := List.mem_filter.mpr ⟨List.mem_append_right _ (List.mem_append_right _ (List.mem_append_right _ (List.mem_append_right _ (List.mem_append_left _ (List.mem_of_getElem? (i := 61) rfl))))), by rfl⟩
theorem jw537 : (.fieldLink R_Mo 69 "TermReaderModel" "firstOf" "[I" : Cond) ∈ gw := List.mem_filter.mpr ⟨List.mem_append_right _ (List.mem_append_right _ (List.mem_append_right _ (List.mem_append_right _ (List.mem_append_left _ (List.mem_of_getElem? (i := 62) rfl))))), by rfl⟩
theorem jw538 : (.fieldLink R_Mo 72 "TermReaderModel" "lastOf" "[I" : Cond) ∈ gw := List.mem_filter.mpr ⟨List.mem_append_right _ (List.mem_append_right _ (List.mem_append_right _ (List.mem_append_right _ (List.mem_append_left _ (List.mem_of_getElem? (i := 63) rfl))))), by rfl⟩
theorem jw539 : (.fieldLink R_Mo 75 "TermReaderModel" "nextOf" "[I" : Cond) ∈ gw := List.mem_filter.mpr ⟨List.mem_append_right _ (List.mem_append_right _ (List.mem_append_right _ (List.mem_append_right _ (List.mem_append_left _ (List.mem_of_getElem? (i := 64) rfl))))), by rfl⟩
theorem jw540 : (.fieldLink R_Mo 78 "TermReaderModel" "pile" "[I" : Cond) ∈ gw := List.mem_filter.mpr ⟨List.mem_append_right _ (List.mem_append_right _ (List.mem_append_right _ (List.mem_append_right _ (List.mem_append_left _ (List.mem_of_getElem? (i := 66) rfl))))), by rfl⟩
theorem jw541 : (.fieldLink R_Mo 99 "TermReaderModel" "letters" "[I" : Cond) ∈ gw := List.mem_filter.mpr ⟨List.mem_append_right _ (List.mem_append_right _ (List.mem_append_right _ (List.mem_append_right _ (List.mem_append_left _ (List.mem_of_getElem? (i := 73) rfl))))), by rfl⟩
theorem jw542 : (.fieldLink R_Mo 102 "TermReaderModel" "starts" "[I" : Cond) ∈ gw := List.mem_filter.mpr ⟨List.mem_append_right _ (List.mem_append_right _ (List.mem_append_right _ (List.mem_append_right _ (List.mem_append_left _ (List.mem_of_getElem? (i := 74) rfl))))), by rfl⟩
theorem jw543 : (.methodLink R_Mo 105 y_Mo_clear : Cond) ∈ gw := List.mem_filter.mpr ⟨List.mem_append_right _ (List.mem_append_right _ (List.mem_append_right _ (List.mem_append_right _ (List.mem_append_left _ (List.mem_of_getElem? (i := 36) rfl))))), by rfl⟩
theorem jw544 : (.code y_Mo_clear b_Mo_clear 2 none : Cond) ∈ gw := List.mem_filter.mpr ⟨List.mem_append_right _ (List.mem_append_right _ (List.mem_append_right _ (List.mem_append_right _ (List.mem_append_left _ (List.mem_of_getElem? (i := 39) rfl))))), by rfl⟩
theorem jw545 : (.instanceMethod y_Mo_clear : Cond) ∈ gw := List.mem_filter.mpr ⟨List.mem_append_right _ (List.mem_append_right _ (List.mem_append_right _ (List.mem_append_right _ (List.mem_append_left _ (List.mem_of_getElem? (i := 38) rfl))))), by rfl⟩
theorem jw546 : (.selects R_Mo y_Mo_clear y_Mo_clear : Cond) ∈ gw := List.mem_filter.mpr ⟨List.mem_append_left _ (by decide +kernel), by rfl⟩
theorem jw547 : (.fieldLink R_Mo 113 "TermReaderModel" "size" "I" : Cond) ∈ gw := List.mem_filter.mpr ⟨List.mem_append_right _ (List.mem_append_right _ (List.mem_append_right _ (List.mem_append_right _ (List.mem_append_left _ (List.mem_of_getElem? (i := 46) rfl))))), by rfl⟩
theorem jw548 : (.fieldLink R_Mo 116 "TermReaderModel" "end" "I" : Cond) ∈ gw := List.mem_filter.mpr ⟨List.mem_append_right _ (List.mem_append_right _ (List.mem_append_right _ (List.mem_append_right _ (List.mem_append_left _ (List.mem_of_getElem? (i := 47) rfl))))), by rfl⟩
theorem jw549 : (.fieldLink R_Mo 119 "TermReaderModel" "tokens" "I" : Cond) ∈ gw := List.mem_filter.mpr ⟨List.mem_append_right _ (List.mem_append_right _ (List.mem_append_right _ (List.mem_append_right _ (List.mem_append_left _ (List.mem_of_getElem? (i := 55) rfl))))), by rfl⟩
theorem jw550 : (.methodLink R_Mo 122 y_Mo_isAt : Cond) ∈ gw := List.mem_filter.mpr ⟨List.mem_append_right _ (List.mem_append_right _ (List.mem_append_right _ (List.mem_append_right _ (List.mem_append_left _ (List.mem_of_getElem? (i := 157) rfl))))), by rfl⟩
theorem jw551 : (.code y_Mo_isAt b_Mo_isAt 4 (some .boolean) : Cond) ∈ gw := List.mem_filter.mpr ⟨List.mem_append_right _ (List.mem_append_right _ (List.mem_append_right _ (List.mem_append_right _ (List.mem_append_left _ (List.mem_of_getElem? (i := 160) rfl))))), by rfl⟩
theorem jw552 : (.instanceMethod y_Mo_isAt : Cond) ∈ gw := List.mem_filter.mpr ⟨List.mem_append_right _ (List.mem_append_right _ (List.mem_append_right _ (List.mem_append_right _ (List.mem_append_left _ (List.mem_of_getElem? (i := 159) rfl))))), by rfl⟩
theorem jw553 : (.selects R_Mo y_Mo_isAt y_Mo_isAt : Cond) ∈ gw := List.mem_filter.mpr ⟨List.mem_append_left _ (by decide +kernel), by rfl⟩
theorem jw554 : (.methodLink R_Mo 126 y_Js_length : Cond) ∈ gw := List.mem_filter.mpr ⟨List.mem_append_right _ (List.mem_append_right _ (List.mem_append_right _ (List.mem_append_right _ (List.mem_append_left _ (List.mem_of_getElem? (i := 175) rfl))))), by rfl⟩
theorem jw555 : (.methodLink R_Mo 129 y_Js_charAt : Cond) ∈ gw := List.mem_filter.mpr ⟨List.mem_append_right _ (List.mem_append_right _ (List.mem_append_right _ (List.mem_append_right _ (List.mem_append_left _ (List.mem_of_getElem? (i := 176) rfl))))), by rfl⟩
theorem jw556 : (.methodLink R_Mo 133 y_Mo_spells : Cond) ∈ gw := List.mem_filter.mpr ⟨List.mem_append_right _ (List.mem_append_right _ (List.mem_append_right _ (List.mem_append_right _ (List.mem_append_left _ (List.mem_of_getElem? (i := 171) rfl))))), by rfl⟩
theorem jw557 : (.code y_Mo_spells b_Mo_spells 5 (some .boolean) : Cond) ∈ gw := List.mem_filter.mpr ⟨List.mem_append_right _ (List.mem_append_right _ (List.mem_append_right _ (List.mem_append_right _ (List.mem_append_left _ (List.mem_of_getElem? (i := 174) rfl))))), by rfl⟩
theorem jw558 : (.instanceMethod y_Mo_spells : Cond) ∈ gw := List.mem_filter.mpr ⟨List.mem_append_right _ (List.mem_append_right _ (List.mem_append_right _ (List.mem_append_right _ (List.mem_append_left _ (List.mem_of_getElem? (i := 173) rfl))))), by rfl⟩
theorem jw559 : (.selects R_Mo y_Mo_spells y_Mo_spells : Cond) ∈ gw := List.mem_filter.mpr ⟨List.mem_append_left _ (by decide +kernel), by rfl⟩
theorem jw560 : (.methodLink R_Mo 141 y_Mo_isDigit : Cond) ∈ gw := List.mem_filter.mpr ⟨List.mem_append_right _ (List.mem_append_right _ (List.mem_append_right _ (List.mem_append_right _ (List.mem_append_left _ (List.mem_of_getElem? (i := 164) rfl))))), by rfl⟩
theorem jw561 : (.code y_Mo_isDigit b_Mo_isDigit 1 (some .boolean) : Cond) ∈ gw := List.mem_filter.mpr ⟨List.mem_append_right _ (List.mem_append_right _ (List.mem_append_right _ (List.mem_append_right _ (List.mem_append_left _ (List.mem_of_getElem? (i := 166) rfl))))), by rfl⟩
theorem jw562 : (.static y_Mo_isDigit : Cond) ∈ gw := List.mem_filter.mpr ⟨List.mem_append_right _ (List.mem_append_right _ (List.mem_append_right _ (List.mem_append_right _ (List.mem_append_left _ (List.mem_of_getElem? (i := 165) rfl))))), by rfl⟩
theorem jw563 : (.methodLink R_Mo 145 y_Mo_behindBlanks : Cond) ∈ gw := List.mem_filter.mpr ⟨List.mem_append_right _ (List.mem_append_right _ (List.mem_append_right _ (List.mem_append_right _ (List.mem_append_left _ (List.mem_of_getElem? (i := 153) rfl))))), by rfl⟩
theorem jw564 : (.code y_Mo_behindBlanks b_Mo_behindBlanks 6 (some .int) : Cond) ∈ gw := List.mem_filter.mpr ⟨List.mem_append_right _ (List.mem_append_right _ (List.mem_append_right _ (List.mem_append_right _ (List.mem_append_left _ (List.mem_of_getElem? (i := 156) rfl))))), by rfl⟩
theorem jw565 : (.instanceMethod y_Mo_behindBlanks : Cond) ∈ gw := List.mem_filter.mpr ⟨List.mem_append_right _ (List.mem_append_right _ (List.mem_append_right _ (List.mem_append_right _ (List.mem_append_left _ (List.mem_of_getElem? (i := 155) rfl))))), by rfl⟩
theorem jw566 : (.selects R_Mo y_Mo_behindBlanks y_Mo_behindBlanks : Cond) ∈ gw := List.mem_filter.mpr ⟨List.mem_append_left _ (by decide +kernel), by rfl⟩
theorem jw567 : (.methodLink R_Mo 156 y_Mo_token : Cond) ∈ gw := List.mem_filter.mpr ⟨List.mem_append_right _ (List.mem_append_right _ (List.mem_append_right _ (List.mem_append_right _ (List.mem_append_left _ (List.mem_of_getElem? (i := 179) rfl))))), by rfl⟩
theorem jw568 : (.code y_Mo_token b_Mo_token 4 none : Cond) ∈ gw := List.mem_filter.mpr ⟨List.mem_append_right _ (List.mem_append_right _ (List.mem_append_right _ (List.mem_append_right _ (List.mem_append_left _ (List.mem_of_getElem? (i := 182) rfl))))), by rfl⟩
theorem jw569 : (.instanceMethod y_Mo_token : Cond) ∈ gw := List.mem_filter.mpr ⟨List.mem_append_right _ (List.mem_append_right _ (List.mem_append_right _ (List.mem_append_right _ (List.mem_append_left _ (List.mem_of_getElem? (i := 181) rfl))))), by rfl⟩
theorem jw570 : (.selects R_Mo y_Mo_token y_Mo_token : Cond) ∈ gw := List.mem_filter.mpr ⟨List.mem_append_left _ (by decide +kernel), by rfl⟩
theorem jw571 : (.methodLink R_Mo 149 y_Mo_isLetter : Cond) ∈ gw := List.mem_filter.mpr ⟨List.mem_append_right _ (List.mem_append_right _ (List.mem_append_right _ (List.mem_append_right _ (List.mem_append_left _ (List.mem_of_getElem? (i := 161) rfl))))), by rfl⟩
theorem jw572 : (.code y_Mo_isLetter b_Mo_isLetter 1 (some .boolean) : Cond) ∈ gw := List.mem_filter.mpr ⟨List.mem_append_right _ (List.mem_append_right _ (List.mem_append_right _ (List.mem_append_right _ (List.mem_append_left _ (List.mem_of_getElem? (i := 163) rfl))))), by rfl⟩
theorem jw573 : (.static y_Mo_isLetter : Cond) ∈ gw := List.mem_filter.mpr ⟨List.mem_append_right _ (List.mem_append_right _ (List.mem_append_right _ (List.mem_append_right _ (List.mem_append_left _ (List.mem_of_getElem? (i := 162) rfl))))), by rfl⟩
theorem jw574 : (.methodLink R_Mo 152 y_Mo_wordOf : Cond) ∈ gw := List.mem_filter.mpr ⟨List.mem_append_right _ (List.mem_append_right _ (List.mem_append_right _ (List.mem_append_right _ (List.mem_append_left _ (List.mem_of_getElem? (i := 167) rfl))))), by rfl⟩
theorem jw575 : (.code y_Mo_wordOf b_Mo_wordOf 6 (some .int) : Cond) ∈ gw := List.mem_filter.mpr ⟨List.mem_append_right _ (List.mem_append_right _ (List.mem_append_right _ (List.mem_append_right _ (List.mem_append_left _ (List.mem_of_getElem? (i := 170) rfl))))), by rfl⟩
theorem jw576 : (.instanceMethod y_Mo_wordOf : Cond) ∈ gw := List.mem_filter.mpr ⟨List.mem_append_right _ (List.mem_append_right _ (List.mem_append_right _ (List.mem_append_right _ (List.mem_append_left _ (List.mem_of_getElem? (i := 169) rfl))))), by rfl⟩
theorem jw577 : (.selects R_Mo y_Mo_wordOf y_Mo_wordOf : Cond) ∈ gw := List.mem_filter.mpr ⟨List.mem_append_left _ (by decide +kernel), by rfl⟩
theorem jw578 : (.fieldLink R_Mo 159 "TermReaderModel" "bad" "Z" : Cond) ∈ gw := List.mem_filter.mpr ⟨List.mem_append_right _ (List.mem_append_right _ (List.mem_append_right _ (List.mem_append_right _ (List.mem_append_left _ (List.mem_of_getElem? (i := 57) rfl))))), by rfl⟩
theorem jw579 : (.fieldLink R_Mo 163 "TermReaderModel" "at" "I" : Cond) ∈ gw := List.mem_filter.mpr ⟨List.mem_append_right _ (List.mem_append_right _ (List.mem_append_right _ (List.mem_append_right _ (List.mem_append_left _ (List.mem_of_getElem? (i := 56) rfl))))), by rfl⟩
theorem jw580 : (.methodLink R_Mo 166 y_Mo_look : Cond) ∈ gw := List.mem_filter.mpr ⟨List.mem_append_right _ (List.mem_append_right _ (List.mem_append_right _ (List.mem_append_right _ (List.mem_append_left _ (List.mem_of_getElem? (i := 183) rfl))))), by rfl⟩
theorem jw581 : (.code y_Mo_look b_Mo_look 1 (some .int) : Cond) ∈ gw := List.mem_filter.mpr ⟨List.mem_append_right _ (List.mem_append_right _ (List.mem_append_right _ (List.mem_append_right _ (List.mem_append_left _ (List.mem_of_getElem? (i := 186) rfl))))), by rfl⟩
theorem jw582 : (.instanceMethod y_Mo_look : Cond) ∈ gw := List.mem_filter.mpr ⟨List.mem_append_right _ (List.mem_append_right _ (List.mem_append_right _ (List.mem_append_right _ (List.mem_append_left _ (List.mem_of_getElem? (i := 185) rfl))))), by rfl⟩
theorem jw583 : (.selects R_Mo y_Mo_look y_Mo_look : Cond) ∈ gw := List.mem_filter.mpr ⟨List.mem_append_left _ (by decide +kernel), by rfl⟩
theorem jw584 : (.methodLink R_Mo 169 y_Mo_need : Cond) ∈ gw := List.mem_filter.mpr ⟨List.mem_append_right _ (List.mem_append_right _ (List.mem_append_right _ (List.mem_append_right _ (List.mem_append_left _ (List.mem_of_getElem? (i := 191) rfl))))), by rfl⟩
theorem jw585 : (.code y_Mo_need b_Mo_need 2 none : Cond) ∈ gw := List.mem_filter.mpr ⟨List.mem_append_right _ (List.mem_append_right _ (List.mem_append_right _ (List.mem_append_right _ (List.mem_append_left _ (List.mem_of_getElem? (i := 194) rfl))))), by rfl⟩
theorem jw586 : (.instanceMethod y_Mo_need : Cond) ∈ gw := List.mem_filter.mpr ⟨List.mem_append_right _ (List.mem_append_right _ (List.mem_append_right _ (List.mem_append_right _ (List.mem_append_left _ (List.mem_of_getElem? (i := 193) rfl))))), by rfl⟩
theorem jw587 : (.selects R_Mo y_Mo_need y_Mo_need : Cond) ∈ gw := List.mem_filter.mpr ⟨List.mem_append_left _ (by decide +kernel), by rfl⟩
theorem jw588 : (.fieldLink R_Mo 173 "TermReaderModel" "drafts" "I" : Cond) ∈ gw := List.mem_filter.mpr ⟨List.mem_append_right _ (List.mem_append_right _ (List.mem_append_right _ (List.mem_append_right _ (List.mem_append_left _ (List.mem_of_getElem? (i := 65) rfl))))), by rfl⟩
theorem jw589 : (.methodLink R_Mo 176 y_Mo_draft : Cond) ∈ gw := List.mem_filter.mpr ⟨List.mem_append_right _ (List.mem_append_right _ (List.mem_append_right _ (List.mem_append_right _ (List.mem_append_left _ (List.mem_of_getElem? (i := 195) rfl))))), by rfl⟩
theorem jw590 : (.code y_Mo_draft b_Mo_draft 4 (some .int) : Cond) ∈ gw := List.mem_filter.mpr ⟨List.mem_append_right _ (List.mem_append_right _ (List.mem_append_right _ (List.mem_append_right _ (List.mem_append_left _ (List.mem_of_getElem? (i := 198) rfl))))), by rfl⟩
theorem jw591 : (.instanceMethod y_Mo_draft : Cond) ∈ gw := List.mem_filter.mpr ⟨List.mem_append_right _ (List.mem_append_right _ (List.mem_append_right _ (List.mem_append_right _ (List.mem_append_left _ (List.mem_of_getElem? (i := 197) rfl))))), by rfl⟩
theorem jw592 : (.selects R_Mo y_Mo_draft y_Mo_draft : Cond) ∈ gw := List.mem_filter.mpr ⟨List.mem_append_left _ (by decide +kernel), by rfl⟩
theorem jw593 : (.methodLink R_Mo 180 y_Mo_take : Cond) ∈ gw := List.mem_filter.mpr ⟨List.mem_append_right _ (List.mem_append_right _ (List.mem_append_right _ (List.mem_append_right _ (List.mem_append_left _ (List.mem_of_getElem? (i := 199) rfl))))), by rfl⟩
theorem jw594 : (.code y_Mo_take b_Mo_take 2 none : Cond) ∈ gw := List.mem_filter.mpr ⟨List.mem_append_right _ (List.mem_append_right _ (List.mem_append_right _ (List.mem_append_right _ (List.mem_append_left _ (List.mem_of_getElem? (i := 202) rfl))))), by rfl⟩
theorem jw595 : (.instanceMethod y_Mo_take : Cond) ∈ gw := List.mem_filter.mpr ⟨List.mem_append_right _ (List.mem_append_right _ (List.mem_append_right _ (List.mem_append_right _ (List.mem_append_left _ (List.mem_of_getElem? (i := 201) rfl))))), by rfl⟩
theorem jw596 : (.selects R_Mo y_Mo_take y_Mo_take : Cond) ∈ gw := List.mem_filter.mpr ⟨List.mem_append_left _ (by decide +kernel), by rfl⟩
theorem jw597 : (.methodLink R_Mo 193 y_Mo_term : Cond) ∈ gw := List.mem_filter.mpr ⟨List.mem_append_right _ (List.mem_append_right _ (List.mem_append_right _ (List.mem_append_right _ (List.mem_append_left _ (List.mem_of_getElem? (i := 219) rfl))))), by rfl⟩
theorem jw598 : (.code y_Mo_term b_Mo_term 8 (some .int) : Cond) ∈ gw := List.mem_filter.mpr ⟨List.mem_append_right _ (List.mem_append_right _ (List.mem_append_right _ (List.mem_append_right _ (List.mem_append_left _ (List.mem_of_getElem? (i := 222) rfl))))), by rfl⟩
theorem jw599 : (.instanceMethod y_Mo_term : Cond) ∈ gw := List.mem_filter.mpr ⟨List.mem_append_right _ (List.mem_append_right _ (List.mem_append_right _ (List.mem_append_right _ (List.mem_append_left _ (List.mem_of_getElem? (i := 221) rfl))))), by rfl⟩
theorem jw600 : (.selects R_Mo y_Mo_term y_Mo_term : Cond) ∈ gw := List.mem_filter.mpr ⟨List.mem_append_left _ (by decide +kernel), by rfl⟩
theorem jw601 : (.methodLink R_Mo 183 y_Mo_name : Cond) ∈ gw := List.mem_filter.mpr ⟨List.mem_append_right _ (List.mem_append_right _ (List.mem_append_right _ (List.mem_append_right _ (List.mem_append_left _ (List.mem_of_getElem? (i := 203) rfl))))), by rfl⟩
theorem jw602 : (.code y_Mo_name b_Mo_name 3 (some .int) : Cond) ∈ gw := List.mem_filter.mpr ⟨List.mem_append_right _ (List.mem_append_right _ (List.mem_append_right _ (List.mem_append_right _ (List.mem_append_left _ (List.mem_of_getElem? (i := 206) rfl))))), by rfl⟩
theorem jw603 : (.instanceMethod y_Mo_name : Cond) ∈ gw := List.mem_filter.mpr ⟨List.mem_append_right _ (List.mem_append_right _ (List.mem_append_right _ (List.mem_append_right _ (List.mem_append_left _ (List.mem_of_getElem? (i := 205) rfl))))), by rfl⟩
theorem jw604 : (.selects R_Mo y_Mo_name y_Mo_name : Cond) ∈ gw := List.mem_filter.mpr ⟨List.mem_append_left _ (by decide +kernel), by rfl⟩
theorem jw605 : (.methodLink R_Mo 189 y_Mo_join : Cond) ∈ gw := List.mem_filter.mpr ⟨List.mem_append_right _ (List.mem_append_right _ (List.mem_append_right _ (List.mem_append_right _ (List.mem_append_left _ (List.mem_of_getElem? (i := 207) rfl))))), by rfl⟩
theorem jw606 : (.code y_Mo_join b_Mo_join 3 none : Cond) ∈ gw := List.mem_filter.mpr ⟨List.mem_append_right _ (List.mem_append_right _ (List.mem_append_right _ (List.mem_append_right _ (List.mem_append_left _ (List.mem_of_getElem? (i := 210) rfl))))), by rfl⟩
theorem jw607 : (.instanceMethod y_Mo_join : Cond) ∈ gw := List.mem_filter.mpr ⟨List.mem_append_right _ (List.mem_append_right _ (List.mem_append_right _ (List.mem_append_right _ (List.mem_append_left _ (List.mem_of_getElem? (i := 209) rfl))))), by rfl⟩
theorem jw608 : (.selects R_Mo y_Mo_join y_Mo_join : Cond) ∈ gw := List.mem_filter.mpr ⟨List.mem_append_left _ (by decide +kernel), by rfl⟩
theorem jw609 : (.methodLink R_Mo 186 y_Mo_sort : Cond) ∈ gw := List.mem_filter.mpr ⟨List.mem_append_right _ (List.mem_append_right _ (List.mem_append_right _ (List.mem_append_right _ (List.mem_append_left _ (List.mem_of_getElem? (i := 235) rfl))))), by rfl⟩
theorem jw610 : (.code y_Mo_sort b_Mo_sort 3 (some .int) : Cond) ∈ gw := List.mem_filter.mpr ⟨List.mem_append_right _ (List.mem_append_right _ (List.mem_append_right _ (List.mem_append_right _ (List.mem_append_left _ (List.mem_of_getElem? (i := 238) rfl))))), by rfl⟩
theorem jw611 : (.instanceMethod y_Mo_sort : Cond) ∈ gw := List.mem_filter.mpr ⟨List.mem_append_right _ (List.mem_append_right _ (List.mem_append_right _ (List.mem_append_right _ (List.mem_append_left _ (List.mem_of_getElem? (i := 237) rfl))))), by rfl⟩
theorem jw612 : (.selects R_Mo y_Mo_sort y_Mo_sort : Cond) ∈ gw := List.mem_filter.mpr ⟨List.mem_append_left _ (by decide +kernel), by rfl⟩
theorem jw613 : (.methodLink R_Mo 196 y_Mo_members : Cond) ∈ gw := List.mem_filter.mpr ⟨List.mem_append_right _ (List.mem_append_right _ (List.mem_append_right _ (List.mem_append_right _ (List.mem_append_left _ (List.mem_of_getElem? (i := 215) rfl))))), by rfl⟩
theorem jw614 : (.code y_Mo_members b_Mo_members 3 none : Cond) ∈ gw := List.mem_filter.mpr ⟨List.mem_append_right _ (List.mem_append_right _ (List.mem_append_right _ (List.mem_append_right _ (List.mem_append_left _ (List.mem_of_getElem? (i := 218) rfl))))), by rfl⟩
theorem jw615 : (.instanceMethod y_Mo_members : Cond) ∈ gw := List.mem_filter.mpr ⟨List.mem_append_right _ (List.mem_append_right _ (List.mem_append_right _ (List.mem_append_right _ (List.mem_append_left _ (List.mem_of_getElem? (i := 217) rfl))))), by rfl⟩
theorem jw616 : (.selects R_Mo y_Mo_members y_Mo_members : Cond) ∈ gw := List.mem_filter.mpr ⟨List.mem_append_left _ (by decide +kernel), by rfl⟩
theorem jw617 : (.methodLink R_Mo 205 y_Mo_isAtom : Cond) ∈ gw := List.mem_filter.mpr ⟨List.mem_append_right _ (List.mem_append_right _ (List.mem_append_right _ (List.mem_append_right _ (List.mem_append_left _ (List.mem_of_getElem? (i := 227) rfl))))), by rfl⟩
theorem jw618 : (.code y_Mo_isAtom b_Mo_isAtom 1 (some .boolean) : Cond) ∈ gw := List.mem_filter.mpr ⟨List.mem_append_right _ (List.mem_append_right _ (List.mem_append_right _ (List.mem_append_right _ (List.mem_append_left _ (List.mem_of_getElem? (i := 230) rfl))))), by rfl⟩
theorem jw619 : (.instanceMethod y_Mo_isAtom : Cond) ∈ gw := List.mem_filter.mpr ⟨List.mem_append_right _ (List.mem_append_right _ (List.mem_append_right _ (List.mem_append_right _ (List.mem_append_left _ (List.mem_of_getElem? (i := 229) rfl))))), by rfl⟩
theorem jw620 : (.selects R_Mo y_Mo_isAtom y_Mo_isAtom : Cond) ∈ gw := List.mem_filter.mpr ⟨List.mem_append_left _ (by decide +kernel), by rfl⟩
theorem jw621 : (.methodLink R_Mo 209 y_Mo_atom : Cond) ∈ gw := List.mem_filter.mpr ⟨List.mem_append_right _ (List.mem_append_right _ (List.mem_append_right _ (List.mem_append_right _ (List.mem_append_left _ (List.mem_of_getElem? (i := 231) rfl))))), by rfl⟩
theorem jw622 : (.code y_Mo_atom b_Mo_atom 5 (some .int) : Cond) ∈ gw := List.mem_filter.mpr ⟨List.mem_append_right _ (List.mem_append_right _ (List.mem_append_right _ (List.mem_append_right _ (List.mem_append_left _ (List.mem_of_getElem? (i := 234) rfl))))), by rfl⟩
theorem jw623 : (.instanceMethod y_Mo_atom : Cond) ∈ gw := List.mem_filter.mpr ⟨List.mem_append_right _ (List.mem_append_right _ (List.mem_append_right _ (List.mem_append_right _ (List.mem_append_left _ (List.mem_of_getElem? (i := 233) rfl))))), by rfl⟩
theorem jw624 : (.selects R_Mo y_Mo_atom y_Mo_atom : Cond) ∈ gw := List.mem_filter.mpr ⟨List.mem_append_left _ (by decide +kernel), by rfl⟩
theorem jw625 : (.methodLink R_Mo 199 y_Mo_told : Cond) ∈ gw := List.mem_filter.mpr ⟨List.mem_append_right _ (List.mem_append_right _ (List.mem_append_right _ (List.mem_append_right _ (List.mem_append_left _ (List.mem_of_getElem? (i := 223) rfl))))), by rfl⟩
theorem jw626 : (.code y_Mo_told b_Mo_told 2 (some .int) : Cond) ∈ gw := List.mem_filter.mpr ⟨List.mem_append_right _ (List.mem_append_right _ (List.mem_append_right _ (List.mem_append_right _ (List.mem_append_left _ (List.mem_of_getElem? (i := 226) rfl))))), by rfl⟩
theorem jw627 : (.instanceMethod y_Mo_told : Cond) ∈ gw := List.mem_filter.mpr ⟨List.mem_append_right _ (List.mem_append_right _ (List.mem_append_right _ (List.mem_append_right _ (List.mem_append_left _ (List.mem_of_getElem? (i := 225) rfl))))), by rfl⟩
theorem jw628 : (.selects R_Mo y_Mo_told y_Mo_told : Cond) ∈ gw := List.mem_filter.mpr ⟨List.mem_append_left _ (by decide +kernel), by rfl⟩
theorem jw629 : (.methodLink R_Mo 202 y_Mo_groups : Cond) ∈ gw := List.mem_filter.mpr ⟨List.mem_append_right _ (List.mem_append_right _ (List.mem_append_right _ (List.mem_append_right _ (List.mem_append_left _ (List.mem_of_getElem? (i := 211) rfl))))), by rfl⟩
theorem jw630 : (.code y_Mo_groups b_Mo_groups 4 none : Cond) ∈ gw := List.mem_filter.mpr ⟨List.mem_append_right _ (List.mem_append_right _ (List.mem_append_right _ (List.mem_append_right _ (List.mem_append_left _ (List.mem_of_getElem? (i := 214) rfl))))), by rfl⟩
theorem jw631 : (.instanceMethod y_Mo_groups : Cond) ∈ gw := List.mem_filter.mpr ⟨List.mem_append_right _ (List.mem_append_right _ (List.mem_append_right _ (List.mem_append_right _ (List.mem_append_left _ (List.mem_of_getElem? (i := 213) rfl))))), by rfl⟩
theorem jw632 : (.selects R_Mo y_Mo_groups y_Mo_groups : Cond) ∈ gw := List.mem_filter.mpr ⟨List.mem_append_left _ (by decide +kernel), by rfl⟩
theorem jw633 : (.fieldLink R_Mo 212 "TermReaderModel" "names" "I" : Cond) ∈ gw := List.mem_filter.mpr ⟨List.mem_append_right _ (List.mem_append_right _ (List.mem_append_right _ (List.mem_append_right _ (List.mem_append_left _ (List.mem_of_getElem? (i := 75) rfl))))), by rfl⟩
theorem jw634 : (.methodLink R_Mo 215 y_Mo_number : Cond) ∈ gw := List.mem_filter.mpr ⟨List.mem_append_right _ (List.mem_append_right _ (List.mem_append_right _ (List.mem_append_right _ (List.mem_append_right _ (List.mem_of_getElem? (i := 3) rfl))))), by rfl⟩
theorem jw635 : (.code y_Mo_number b_Mo_number 5 (some .int) : Cond) ∈ gw := List.mem_filter.mpr ⟨List.mem_append_right _ (List.mem_append_right _ (List.mem_append_right _ (List.mem_append_right _ (List.mem_append_right _ (List.mem_of_getElem? (i := 6) rfl))))), by rfl⟩
theorem jw636 : (.instanceMethod y_Mo_number : Cond) ∈ gw := List.mem_filter.mpr ⟨List.mem_append_right _ (List.mem_append_right _ (List.mem_append_right _ (List.mem_append_right _ (List.mem_append_right _ (List.mem_of_getElem? (i := 5) rfl))))), by rfl⟩
theorem jw637 : (.selects R_Mo y_Mo_number y_Mo_number : Cond) ∈ gw := List.mem_filter.mpr ⟨List.mem_append_left _ (by decide +kernel), by rfl⟩
theorem jw638 : (.methodLink R_Mo 218 y_Mo_scan : Cond) ∈ gw := List.mem_filter.mpr ⟨List.mem_append_right _ (List.mem_append_right _ (List.mem_append_right _ (List.mem_append_right _ (List.mem_append_left _ (List.mem_of_getElem? (i := 149) rfl))))), by rfl⟩
theorem jw639 : (.code y_Mo_scan b_Mo_scan 5 none : Cond) ∈ gw := List.mem_filter.mpr ⟨List.mem_append_right _ (List.mem_append_right _ (List.mem_append_right _ (List.mem_append_right _ (List.mem_append_left _ (List.mem_of_getElem? (i := 152) rfl))))), by rfl⟩
theorem jw640 : (.instanceMethod y_Mo_scan : Cond) ∈ gw := List.mem_filter.mpr ⟨List.mem_append_right _ (List.mem_append_right _ (List.mem_append_right _ (List.mem_append_right _ (List.mem_append_left _ (List.mem_of_getElem? (i := 151) rfl))))), by rfl⟩
theorem jw641 : (.selects R_Mo y_Mo_scan y_Mo_scan : Cond) ∈ gw := List.mem_filter.mpr ⟨List.mem_append_left _ (by decide +kernel), by rfl⟩
theorem jw642 : (.methodLink R_Mo 221 y_Mo_declaration : Cond) ∈ gw := List.mem_filter.mpr ⟨List.mem_append_right _ (List.mem_append_right _ (List.mem_append_right _ (List.mem_append_right _ (List.mem_append_left _ (List.mem_of_getElem? (i := 187) rfl))))), by rfl⟩
theorem jw643 : (.code y_Mo_declaration b_Mo_declaration 4 (some .int) : Cond) ∈ gw := List.mem_filter.mpr ⟨List.mem_append_right _ (List.mem_append_right _ (List.mem_append_right _ (List.mem_append_right _ (List.mem_append_left _ (List.mem_of_getElem? (i := 190) rfl))))), by rfl⟩
theorem jw644 : (.instanceMethod y_Mo_declaration : Cond) ∈ gw := List.mem_filter.mpr ⟨List.mem_append_right _ (List.mem_append_right _ (List.mem_append_right _ (List.mem_append_right _ (List.mem_append_left _ (List.mem_of_getElem? (i := 189) rfl))))), by rfl⟩
theorem jw645 : (.selects R_Mo y_Mo_declaration y_Mo_declaration : Cond) ∈ gw := List.mem_filter.mpr ⟨List.mem_append_left _ (by decide +kernel), by rfl⟩
theorem jw646 : (.methodLink R_Mo 224 y_Mo_keep : Cond) ∈ gw := List.mem_filter.mpr ⟨List.mem_append_right _ (List.mem_append_right _ (List.mem_append_right _ (List.mem_append_right _ (List.mem_append_left _ (List.mem_of_getElem? (i := 239) rfl))))), by rfl⟩
theorem jw647 : (.code y_Mo_keep b_Mo_keep 8 none : Cond) ∈ gw := List.mem_filter.mpr ⟨List.mem_append_right _ (List.mem_append_right _ (List.mem_append_right _ (List.mem_append_right _ (List.mem_append_right _ (List.mem_of_getElem? (i := 2) rfl))))), by rfl⟩
theorem jw648 : (.instanceMethod y_Mo_keep : Cond) ∈ gw := List.mem_filter.mpr ⟨List.mem_append_right _ (List.mem_append_right _ (List.mem_append_right _ (List.mem_append_right _ (List.mem_append_right _ (List.mem_of_getElem? (i := 1) rfl))))), by rfl⟩
theorem jw649 : (.selects R_Mo y_Mo_keep y_Mo_keep : Cond) ∈ gw := List.mem_filter.mpr ⟨List.mem_append_left _ (by decide +kernel), by rfl⟩
theorem jw650 : (.methodLink R_Mo 230 y_Mo_has : Cond) ∈ gw := List.mem_filter.mpr ⟨List.mem_append_right _ (List.mem_append_right _ (List.mem_append_right _ (List.mem_append_right _ (List.mem_append_right _ (List.mem_of_getElem? (i := 19) rfl))))), by rfl⟩
theorem jw651 : (.code y_Mo_has b_Mo_has 3 (some .boolean) : Cond) ∈ gw := List.mem_filter.mpr ⟨List.mem_append_right _ (List.mem_append_right _ (List.mem_append_right _ (List.mem_append_right _ (List.mem_append_right _ (List.mem_of_getElem? (i := 22) rfl))))), by rfl⟩
theorem jw652 : (.instanceMethod y_Mo_has : Cond) ∈ gw := List.mem_filter.mpr ⟨List.mem_append_right _ (List.mem_append_right _ (List.mem_append_right _ (List.mem_append_right _ (List.mem_append_right _ (List.mem_of_getElem? (i := 21) rfl))))), by rfl⟩
theorem jw653 : (.selects R_Mo y_Mo_has y_Mo_has : Cond) ∈ gw := List.mem_filter.mpr ⟨List.mem_append_left _ (by decide +kernel), by rfl⟩
theorem jw654 : (.methodLink R_Mo 227 y_Mo_part : Cond) ∈ gw := List.mem_filter.mpr ⟨List.mem_append_right _ (List.mem_append_right _ (List.mem_append_right _ (List.mem_append_right _ (List.mem_append_right _ (List.mem_of_getElem? (i := 31) rfl))))), by rfl⟩
theorem jw655 : (.code y_Mo_part b_Mo_part 6 (some .int) : Cond) ∈ gw := List.mem_filter.mpr ⟨List.mem_append_right _ (List.mem_append_right _ (List.mem_append_right _ (List.mem_append_right _ (List.mem_append_right _ (List.mem_of_getElem? (i := 18) rfl))))), by rfl⟩
theorem jw656 : (.instanceMethod y_Mo_part : Cond) ∈ gw := List.mem_filter.mpr ⟨List.mem_append_right _ (List.mem_append_right _ (List.mem_append_right _ (List.mem_append_right _ (List.mem_append_right _ (List.mem_of_getElem? (i := 16) rfl))))), by rfl⟩
theorem jw657 : (.selects R_Mo y_Mo_part y_Mo_part : Cond) ∈ gw := List.mem_filter.mpr ⟨List.mem_append_right _ (List.mem_append_right _ (List.mem_append_right _ (List.mem_append_right _ (List.mem_append_right _ (List.mem_of_getElem? (i := 17) rfl))))), by rfl⟩
theorem jw658 : (.methodLink R_Mo 234 y_Mo_parts : Cond) ∈ gw := List.mem_filter.mpr ⟨List.mem_append_right _ (List.mem_append_right _ (List.mem_append_right _ (List.mem_append_right _ (List.mem_append_right _ (List.mem_of_getElem? (i := 27) rfl))))), by rfl⟩
theorem jw659 : (.code y_Mo_parts b_Mo_parts 4 (some .int) : Cond) ∈ gw := List.mem_filter.mpr ⟨List.mem_append_right _ (List.mem_append_right _ (List.mem_append_right _ (List.mem_append_right _ (List.mem_append_right _ (List.mem_of_getElem? (i := 30) rfl))))), by rfl⟩
theorem jw660 : (.instanceMethod y_Mo_parts : Cond) ∈ gw := List.mem_filter.mpr ⟨List.mem_append_right _ (List.mem_append_right _ (List.mem_append_right _ (List.mem_append_right _ (List.mem_append_right _ (List.mem_of_getElem? (i := 29) rfl))))), by rfl⟩
theorem jw661 : (.selects R_Mo y_Mo_parts y_Mo_parts : Cond) ∈ gw := List.mem_filter.mpr ⟨List.mem_append_left _ (by decide +kernel), by rfl⟩
theorem jw662 : (.fieldLink R_Mo 240 "TermReaderModel" "outSize" "I" : Cond) ∈ gw := List.mem_filter.mpr ⟨List.mem_append_right _ (List.mem_append_right _ (List.mem_append_right _ (List.mem_append_right _ (List.mem_append_left _ (List.mem_of_getElem? (i := 51) rfl))))), by rfl⟩
theorem jw663 : (.methodLink R_Mo 237 y_Mo_put : Cond) ∈ gw := List.mem_filter.mpr ⟨List.mem_append_right _ (List.mem_append_right _ (List.mem_append_right _ (List.mem_append_right _ (List.mem_append_right _ (List.mem_of_getElem? (i := 60) rfl))))), by rfl⟩
theorem jw664 : (.code y_Mo_put b_Mo_put 2 none : Cond) ∈ gw := List.mem_filter.mpr ⟨List.mem_append_right _ (List.mem_append_right _ (List.mem_append_right _ (List.mem_append_right _ (List.mem_append_right _ (List.mem_of_getElem? (i := 63) rfl))))), by rfl⟩
theorem jw665 : (.instanceMethod y_Mo_put : Cond) ∈ gw := List.mem_filter.mpr ⟨List.mem_append_right _ (List.mem_append_right _ (List.mem_append_right _ (List.mem_append_right _ (List.mem_append_right _ (List.mem_of_getElem? (i := 62) rfl))))), by rfl⟩
theorem jw666 : (.selects R_Mo y_Mo_put y_Mo_put : Cond) ∈ gw := List.mem_filter.mpr ⟨List.mem_append_left _ (by decide +kernel), by rfl⟩
theorem jw667 : (.methodLink R_Mo 243 y_Mo_show : Cond) ∈ gw := List.mem_filter.mpr ⟨List.mem_append_right _ (List.mem_append_right _ (List.mem_append_right _ (List.mem_append_right _ (List.mem_append_right _ (List.mem_of_getElem? (i := 52) rfl))))), by rfl⟩
theorem jw668 : (.code y_Mo_show b_Mo_show 8 none : Cond) ∈ gw := List.mem_filter.mpr ⟨List.mem_append_right _ (List.mem_append_right _ (List.mem_append_right _ (List.mem_append_right _ (List.mem_append_right _ (List.mem_of_getElem? (i := 55) rfl))))), by rfl⟩
theorem jw669 : (.instanceMethod y_Mo_show : Cond) ∈ gw := List.mem_filter.mpr ⟨List.mem_append_right _ (List.mem_append_right _ (List.mem_append_right _ (List.mem_append_right _ (List.mem_append_right _ (List.mem_of_getElem? (i := 54) rfl))))), by rfl⟩
theorem jw670 : (.selects R_Mo y_Mo_show y_Mo_show : Cond) ∈ gw := List.mem_filter.mpr ⟨List.mem_append_left _ (by decide +kernel), by rfl⟩
theorem jw671 : (.methodLink R_Mo 246 y_Mo_kindAt : Cond) ∈ gw := List.mem_filter.mpr ⟨List.mem_append_right _ (List.mem_append_right _ (List.mem_append_right _ (List.mem_append_right _ (List.mem_append_right _ (List.mem_of_getElem? (i := 56) rfl))))), by rfl⟩
theorem jw672 : (.code y_Mo_kindAt b_Mo_kindAt 3 (some .int) : Cond) ∈ gw := List.mem_filter.mpr ⟨List.mem_append_right _ (List.mem_append_right _ (List.mem_append_right _ (List.mem_append_right _ (List.mem_append_right _ (List.mem_of_getElem? (i := 59) rfl))))), by rfl⟩
theorem jw673 : (.instanceMethod y_Mo_kindAt : Cond) ∈ gw := List.mem_filter.mpr ⟨List.mem_append_right _ (List.mem_append_right _ (List.mem_append_right _ (List.mem_append_right _ (List.mem_append_right _ (List.mem_of_getElem? (i := 58) rfl))))), by rfl⟩
theorem jw674 : (.selects R_Mo y_Mo_kindAt y_Mo_kindAt : Cond) ∈ gw := List.mem_filter.mpr ⟨List.mem_append_left _ (by decide +kernel), by rfl⟩
theorem jw675 : (.methodLink R_Mo 251 y_Mo_text : Cond) ∈ gw := List.mem_filter.mpr ⟨List.mem_append_right _ (List.mem_append_right _ (List.mem_append_right _ (List.mem_append_right _ (List.mem_append_right _ (List.mem_of_getElem? (i := 65) rfl))))), by rfl⟩
theorem jw676 : (.code y_Mo_text b_Mo_text 3 none : Cond) ∈ gw := List.mem_filter.mpr ⟨List.mem_append_right _ (List.mem_append_right _ (List.mem_append_right _ (List.mem_append_right _ (List.mem_append_right _ (List.mem_of_getElem? (i := 68) rfl))))), by rfl⟩
theorem jw677 : (.instanceMethod y_Mo_text : Cond) ∈ gw := List.mem_filter.mpr ⟨List.mem_append_right _ (List.mem_append_right _ (List.mem_append_right _ (List.mem_append_right _ (List.mem_append_right _ (List.mem_of_getElem? (i := 67) rfl))))), by rfl⟩
theorem jw678 : (.selects R_Mo y_Mo_text y_Mo_text : Cond) ∈ gw := List.mem_filter.mpr ⟨List.mem_append_left _ (by decide +kernel), by rfl⟩
theorem jw679 : (.methodLink R_Mo 255 y_Mo_sayTold : Cond) ∈ gw := List.mem_filter.mpr ⟨List.mem_append_right _ (List.mem_append_right _ (List.mem_append_right _ (List.mem_append_right _ (List.mem_append_right _ (List.mem_of_getElem? (i := 73) rfl))))), by rfl⟩
theorem jw680 : (.code y_Mo_sayTold b_Mo_sayTold 3 none : Cond) ∈ gw := List.mem_filter.mpr ⟨List.mem_append_right _ (List.mem_append_right _ (List.mem_append_right _ (List.mem_append_right _ (List.mem_append_right _ (List.mem_of_getElem? (i := 76) rfl))))), by rfl⟩
theorem jw681 : (.instanceMethod y_Mo_sayTold : Cond) ∈ gw := List.mem_filter.mpr ⟨List.mem_append_right _ (List.mem_append_right _ (List.mem_append_right _ (List.mem_append_right _ (List.mem_append_right _ (List.mem_of_getElem? (i := 75) rfl))))), by rfl⟩
theorem jw682 : (.selects R_Mo y_Mo_sayTold y_Mo_sayTold : Cond) ∈ gw := List.mem_filter.mpr ⟨List.mem_append_left _ (by decide +kernel), by rfl⟩
theorem jw683 : (.methodLink R_Mo 262 y_Mo_isOpen : Cond) ∈ gw := List.mem_filter.mpr ⟨List.mem_append_right _ (List.mem_append_right _ (List.mem_append_right _ (List.mem_append_right _ (List.mem_append_right _ (List.mem_of_getElem? (i := 93) rfl))))), by rfl⟩
theorem jw684 : (.code y_Mo_isOpen b_Mo_isOpen 1 (some .boolean) : Cond) ∈ gw := List.mem_filter.mpr ⟨List.mem_append_right _ (List.mem_append_right _ (List.mem_append_right _ (List.mem_append_right _ (List.mem_append_right _ (List.mem_of_getElem? (i := 95) rfl))))), by rfl⟩
theorem jw685 : (.static y_Mo_isOpen : Cond) ∈ gw := List.mem_filter.mpr ⟨List.mem_append_right _ (List.mem_append_right _ (List.mem_append_right _ (List.mem_append_right _ (List.mem_append_right _ (List.mem_of_getElem? (i := 94) rfl))))), by rfl⟩
theorem jw686 : (.methodLink R_Mo 265 y_Mo_bracket : Cond) ∈ gw := List.mem_filter.mpr ⟨List.mem_append_right _ (List.mem_append_right _ (List.mem_append_right _ (List.mem_append_right _ (List.mem_append_right _ (List.mem_of_getElem? (i := 96) rfl))))), by rfl⟩
theorem jw687 : (.code y_Mo_bracket b_Mo_bracket 4 none : Cond) ∈ gw := List.mem_filter.mpr ⟨List.mem_append_right _ (List.mem_append_right _ (List.mem_append_right _ (List.mem_append_right _ (List.mem_append_right _ (List.mem_of_getElem? (i := 99) rfl))))), by rfl⟩
theorem jw688 : (.instanceMethod y_Mo_bracket : Cond) ∈ gw := List.mem_filter.mpr ⟨List.mem_append_right _ (List.mem_append_right _ (List.mem_append_right _ (List.mem_append_right _ (List.mem_append_right _ (List.mem_of_getElem? (i := 98) rfl))))), by rfl⟩
theorem jw689 : (.selects R_Mo y_Mo_bracket y_Mo_bracket : Cond) ∈ gw := List.mem_filter.mpr ⟨List.mem_append_left _ (by decide +kernel), by rfl⟩
theorem jw690 : (.methodLink R_Mo 292 y_Mo_sayApplied : Cond) ∈ gw := List.mem_filter.mpr ⟨List.mem_append_right _ (List.mem_append_right _ (List.mem_append_right _ (List.mem_append_right _ (List.mem_append_right _ (List.mem_of_getElem? (i := 101) rfl))))), by rfl⟩
theorem jw691 : (.code y_Mo_sayApplied b_Mo_sayApplied 7 none : Cond) ∈ gw := List.mem_filter.mpr ⟨List.mem_append_right _ (List.mem_append_right _ (List.mem_append_right _ (List.mem_append_right _ (List.mem_append_right _ (List.mem_of_getElem? (i := 104) rfl))))), by rfl⟩
theorem jw692 : (.instanceMethod y_Mo_sayApplied : Cond) ∈ gw := List.mem_filter.mpr ⟨List.mem_append_right _ (List.mem_append_right _ (List.mem_append_right _ (List.mem_append_right _ (List.mem_append_right _ (List.mem_of_getElem? (i := 103) rfl))))), by rfl⟩
theorem jw693 : (.selects R_Mo y_Mo_sayApplied y_Mo_sayApplied : Cond) ∈ gw := List.mem_filter.mpr ⟨List.mem_append_left _ (by decide +kernel), by rfl⟩
theorem jw694 : (.methodLink R_Mo 272 y_Mo_sayGroup : Cond) ∈ gw := List.mem_filter.mpr ⟨List.mem_append_right _ (List.mem_append_right _ (List.mem_append_right _ (List.mem_append_right _ (List.mem_append_right _ (List.mem_of_getElem? (i := 79) rfl))))), by rfl⟩
theorem jw695 : (.code y_Mo_sayGroup b_Mo_sayGroup 4 none : Cond) ∈ gw := List.mem_filter.mpr ⟨List.mem_append_right _ (List.mem_append_right _ (List.mem_append_right _ (List.mem_append_right _ (List.mem_append_right _ (List.mem_of_getElem? (i := 82) rfl))))), by rfl⟩
theorem jw696 : (.instanceMethod y_Mo_sayGroup : Cond) ∈ gw := List.mem_filter.mpr ⟨List.mem_append_right _ (List.mem_append_right _ (List.mem_append_right _ (List.mem_append_right _ (List.mem_append_right _ (List.mem_of_getElem? (i := 81) rfl))))), by rfl⟩
theorem jw697 : (.selects R_Mo y_Mo_sayGroup y_Mo_sayGroup : Cond) ∈ gw := List.mem_filter.mpr ⟨List.mem_append_left _ (by decide +kernel), by rfl⟩
theorem jw698 : (.methodLink R_Mo 269 y_Mo_sayDeclaration : Cond) ∈ gw := List.mem_filter.mpr ⟨List.mem_append_right _ (List.mem_append_right _ (List.mem_append_right _ (List.mem_append_right _ (List.mem_append_right _ (List.mem_of_getElem? (i := 69) rfl))))), by rfl⟩
theorem jw699 : (.code y_Mo_sayDeclaration b_Mo_sayDeclaration 7 none : Cond) ∈ gw := List.mem_filter.mpr ⟨List.mem_append_right _ (List.mem_append_right _ (List.mem_append_right _ (List.mem_append_right _ (List.mem_append_right _ (List.mem_of_getElem? (i := 72) rfl))))), by rfl⟩
theorem jw700 : (.instanceMethod y_Mo_sayDeclaration : Cond) ∈ gw := List.mem_filter.mpr ⟨List.mem_append_right _ (List.mem_append_right _ (List.mem_append_right _ (List.mem_append_right _ (List.mem_append_right _ (List.mem_of_getElem? (i := 71) rfl))))), by rfl⟩
theorem jw701 : (.selects R_Mo y_Mo_sayDeclaration y_Mo_sayDeclaration : Cond) ∈ gw := List.mem_filter.mpr ⟨List.mem_append_left _ (by decide +kernel), by rfl⟩
theorem jw702 : (.methodLink R_Mo 275 y_Mo_sayName : Cond) ∈ gw := List.mem_filter.mpr ⟨List.mem_append_right _ (List.mem_append_right _ (List.mem_append_right _ (List.mem_append_right _ (List.mem_append_right _ (List.mem_of_getElem? (i := 83) rfl))))), by rfl⟩
theorem jw703 : (.code y_Mo_sayName b_Mo_sayName 3 none : Cond) ∈ gw := List.mem_filter.mpr ⟨List.mem_append_right _ (List.mem_append_right _ (List.mem_append_right _ (List.mem_append_right _ (List.mem_append_right _ (List.mem_of_getElem? (i := 86) rfl))))), by rfl⟩
theorem jw704 : (.instanceMethod y_Mo_sayName : Cond) ∈ gw := List.mem_filter.mpr ⟨List.mem_append_right _ (List.mem_append_right _ (List.mem_append_right _ (List.mem_append_right _ (List.mem_append_right _ (List.mem_of_getElem? (i := 85) rfl))))), by rfl⟩
theorem jw705 : (.selects R_Mo y_Mo_sayName y_Mo_sayName : Cond) ∈ gw := List.mem_filter.mpr ⟨List.mem_append_left _ (by decide +kernel), by rfl⟩
theorem jw706 : (.fieldLink R_Mo 297 "TermReaderModel" "writtenSize" "I" : Cond) ∈ gw := List.mem_filter.mpr ⟨List.mem_append_right _ (List.mem_append_right _ (List.mem_append_right _ (List.mem_append_right _ (List.mem_append_left _ (List.mem_of_getElem? (i := 49) rfl))))), by rfl⟩
theorem jw707 : (.classLink R_La 7 R_TR : Cond) ∈ gw := List.mem_filter.mpr ⟨List.mem_append_right _ (List.mem_append_left _ (List.mem_of_getElem? (i := 19) rfl)), by rfl⟩
theorem jw708 : (.instantiable R_TR 7 : Cond) ∈ gw := List.mem_filter.mpr ⟨List.mem_append_right _ (List.mem_append_left _ (List.mem_of_getElem? (i := 20) rfl)), by rfl⟩
theorem jw709 : (.methodLink R_La 9 y_TR_init : Cond) ∈ gw := List.mem_filter.mpr ⟨List.mem_append_right _ (List.mem_append_left _ (List.mem_of_getElem? (i := 21) rfl)), by rfl⟩
theorem jw710 : (.code y_TR_init b_TR_init 1 none : Cond) ∈ gw := List.mem_filter.mpr ⟨List.mem_append_right _ (List.mem_append_left _ (List.mem_of_getElem? (i := 23) rfl)), by rfl⟩
theorem jw711 : (.instanceMethod y_TR_init : Cond) ∈ gw := List.mem_filter.mpr ⟨List.mem_append_right _ (List.mem_append_left _ (List.mem_of_getElem? (i := 22) rfl)), by rfl⟩
theorem jw712 : (.classLink R_La 10 R_Mo : Cond) ∈ gw := List.mem_filter.mpr ⟨List.mem_append_right _ (List.mem_append_right _ (List.mem_append_right _ (List.mem_append_right _ (List.mem_append_left _ (List.mem_of_getElem? (i := 17) rfl))))), by rfl⟩
theorem jw713 : (.instantiable R_Mo 32 : Cond) ∈ gw := List.mem_filter.mpr ⟨List.mem_append_right _ (List.mem_append_right _ (List.mem_append_right _ (List.mem_append_right _ (List.mem_append_left _ (List.mem_of_getElem? (i := 18) rfl))))), by rfl⟩
theorem jw714 : (.methodLink R_La 12 y_Mo_init : Cond) ∈ gw := List.mem_filter.mpr ⟨List.mem_append_right _ (List.mem_append_right _ (List.mem_append_right _ (List.mem_append_right _ (List.mem_append_left _ (List.mem_of_getElem? (i := 19) rfl))))), by rfl⟩
theorem jw715 : (.code y_Mo_init b_Mo_init 1 none : Cond) ∈ gw := List.mem_filter.mpr ⟨List.mem_append_right _ (List.mem_append_right _ (List.mem_append_right _ (List.mem_append_right _ (List.mem_append_left _ (List.mem_of_getElem? (i := 21) rfl))))), by rfl⟩
theorem jw716 : (.instanceMethod y_Mo_init : Cond) ∈ gw := List.mem_filter.mpr ⟨List.mem_append_right _ (List.mem_append_right _ (List.mem_append_right _ (List.mem_append_right _ (List.mem_append_left _ (List.mem_of_getElem? (i := 20) rfl))))), by rfl⟩
theorem jw717 : (.methodLink R_La 13 y_TR_feed : Cond) ∈ gw := List.mem_filter.mpr ⟨List.mem_append_right _ (List.mem_append_left _ (List.mem_of_getElem? (i := 221) rfl)), by rfl⟩
theorem jw718 : (.code y_TR_feed b_TR_feed 6 (some .int) : Cond) ∈ gw := List.mem_filter.mpr ⟨List.mem_append_right _ (List.mem_append_left _ (List.mem_of_getElem? (i := 224) rfl)), by rfl⟩
theorem jw719 : (.instanceMethod y_TR_feed : Cond) ∈ gw := List.mem_filter.mpr ⟨List.mem_append_right _ (List.mem_append_left _ (List.mem_of_getElem? (i := 222) rfl)), by rfl⟩
theorem jw720 : (.selects R_TR y_TR_feed y_TR_feed : Cond) ∈ gw := List.mem_filter.mpr ⟨List.mem_append_right _ (List.mem_append_left _ (List.mem_of_getElem? (i := 223) rfl)), by rfl⟩
theorem jw721 : (.methodLink R_La 17 y_Mo_feed : Cond) ∈ gw := List.mem_filter.mpr ⟨List.mem_append_right _ (List.mem_append_right _ (List.mem_append_right _ (List.mem_append_right _ (List.mem_append_left _ (List.mem_of_getElem? (i := 141) rfl))))), by rfl⟩
theorem jw722 : (.code y_Mo_feed b_Mo_feed 8 (some .int) : Cond) ∈ gw := List.mem_filter.mpr ⟨List.mem_append_right _ (List.mem_append_right _ (List.mem_append_right _ (List.mem_append_right _ (List.mem_append_left _ (List.mem_of_getElem? (i := 144) rfl))))), by rfl⟩
theorem jw723 : (.instanceMethod y_Mo_feed : Cond) ∈ gw := List.mem_filter.mpr ⟨List.mem_append_right _ (List.mem_append_right _ (List.mem_append_right _ (List.mem_append_right _ (List.mem_append_left _ (List.mem_of_getElem? (i := 142) rfl))))), by rfl⟩
theorem jw724 : (.selects R_Mo y_Mo_feed y_Mo_feed : Cond) ∈ gw := List.mem_filter.mpr ⟨List.mem_append_right _ (List.mem_append_right _ (List.mem_append_right _ (List.mem_append_right _ (List.mem_append_left _ (List.mem_of_getElem? (i := 143) rfl))))), by rfl⟩
theorem jw725 : (.methodLink R_La 18 y_TR_read : Cond) ∈ gw := List.mem_filter.mpr ⟨List.mem_append_right _ (List.mem_append_left _ (List.mem_of_getElem? (i := 233) rfl)), by rfl⟩
theorem jw726 : (.code y_TR_read b_TR_read 4 (some .int) : Cond) ∈ gw := List.mem_filter.mpr ⟨List.mem_append_right _ (List.mem_append_left _ (List.mem_of_getElem? (i := 236) rfl)), by rfl⟩
theorem jw727 : (.instanceMethod y_TR_read : Cond) ∈ gw := List.mem_filter.mpr ⟨List.mem_append_right _ (List.mem_append_left _ (List.mem_of_getElem? (i := 234) rfl)), by rfl⟩
theorem jw728 : (.selects R_TR y_TR_read y_TR_read : Cond) ∈ gw := List.mem_filter.mpr ⟨List.mem_append_right _ (List.mem_append_left _ (List.mem_of_getElem? (i := 235) rfl)), by rfl⟩
theorem jw729 : (.methodLink R_La 22 y_Mo_read : Cond) ∈ gw := List.mem_filter.mpr ⟨List.mem_append_right _ (List.mem_append_right _ (List.mem_append_right _ (List.mem_append_right _ (List.mem_append_left _ (List.mem_of_getElem? (i := 145) rfl))))), by rfl⟩
theorem jw730 : (.code y_Mo_read b_Mo_read 5 (some .int) : Cond) ∈ gw := List.mem_filter.mpr ⟨List.mem_append_right _ (List.mem_append_right _ (List.mem_append_right _ (List.mem_append_right _ (List.mem_append_left _ (List.mem_of_getElem? (i := 148) rfl))))), by rfl⟩
theorem jw731 : (.instanceMethod y_Mo_read : Cond) ∈ gw := List.mem_filter.mpr ⟨List.mem_append_right _ (List.mem_append_right _ (List.mem_append_right _ (List.mem_append_right _ (List.mem_append_left _ (List.mem_of_getElem? (i := 146) rfl))))), by rfl⟩
theorem jw732 : (.selects R_Mo y_Mo_read y_Mo_read : Cond) ∈ gw := List.mem_filter.mpr ⟨List.mem_append_right _ (List.mem_append_right _ (List.mem_append_right _ (List.mem_append_right _ (List.mem_append_left _ (List.mem_of_getElem? (i := 147) rfl))))), by rfl⟩
theorem jw733 : (.methodLink R_La 23 y_TR_fault : Cond) ∈ gw := List.mem_filter.mpr ⟨List.mem_append_right _ (List.mem_append_right _ (List.mem_append_right _ (List.mem_append_left _ (List.mem_of_getElem? (i := 108) rfl)))), by rfl⟩
theorem jw734 : (.code y_TR_fault b_TR_fault 1 (some .int) : Cond) ∈ gw := List.mem_filter.mpr ⟨List.mem_append_right _ (List.mem_append_right _ (List.mem_append_right _ (List.mem_append_left _ (List.mem_of_getElem? (i := 111) rfl)))), by rfl⟩
theorem jw735 : (.instanceMethod y_TR_fault : Cond) ∈ gw := List.mem_filter.mpr ⟨List.mem_append_right _ (List.mem_append_right _ (List.mem_append_right _ (List.mem_append_left _ (List.mem_of_getElem? (i := 109) rfl)))), by rfl⟩
theorem jw736 : (.selects R_TR y_TR_fault y_TR_fault : Cond) ∈ gw := List.mem_filter.mpr ⟨List.mem_append_right _ (List.mem_append_right _ (List.mem_append_right _ (List.mem_append_left _ (List.mem_of_getElem? (i := 110) rfl)))), by rfl⟩
theorem jw737 : (.methodLink R_La 27 y_Mo_fault : Cond) ∈ gw := List.mem_filter.mpr ⟨List.mem_append_right _ (List.mem_append_right _ (List.mem_append_right _ (List.mem_append_right _ (List.mem_append_right _ (List.mem_of_getElem? (i := 7) rfl))))), by rfl⟩
theorem jw738 : (.code y_Mo_fault b_Mo_fault 1 (some .int) : Cond) ∈ gw := List.mem_filter.mpr ⟨List.mem_append_right _ (List.mem_append_right _ (List.mem_append_right _ (List.mem_append_right _ (List.mem_append_right _ (List.mem_of_getElem? (i := 10) rfl))))), by rfl⟩
theorem jw739 : (.instanceMethod y_Mo_fault : Cond) ∈ gw := List.mem_filter.mpr ⟨List.mem_append_right _ (List.mem_append_right _ (List.mem_append_right _ (List.mem_append_right _ (List.mem_append_right _ (List.mem_of_getElem? (i := 8) rfl))))), by rfl⟩
theorem jw740 : (.selects R_Mo y_Mo_fault y_Mo_fault : Cond) ∈ gw := List.mem_filter.mpr ⟨List.mem_append_right _ (List.mem_append_right _ (List.mem_append_right _ (List.mem_append_right _ (List.mem_append_right _ (List.mem_of_getElem? (i := 9) rfl))))), by rfl⟩
theorem jw741 : (.methodLink R_La 28 y_TR_nodes : Cond) ∈ gw := List.mem_filter.mpr ⟨List.mem_append_right _ (List.mem_append_right _ (List.mem_append_right _ (List.mem_append_left _ (List.mem_of_getElem? (i := 112) rfl)))), by rfl⟩
theorem jw742 : (.code y_TR_nodes b_TR_nodes 3 (some .int) : Cond) ∈ gw := List.mem_filter.mpr ⟨List.mem_append_right _ (List.mem_append_right _ (List.mem_append_right _ (List.mem_append_left _ (List.mem_of_getElem? (i := 115) rfl)))), by rfl⟩
theorem jw743 : (.instanceMethod y_TR_nodes : Cond) ∈ gw := List.mem_filter.mpr ⟨List.mem_append_right _ (List.mem_append_right _ (List.mem_append_right _ (List.mem_append_left _ (List.mem_of_getElem? (i := 113) rfl)))), by rfl⟩
theorem jw744 : (.selects R_TR y_TR_nodes y_TR_nodes : Cond) ∈ gw := List.mem_filter.mpr ⟨List.mem_append_right _ (List.mem_append_right _ (List.mem_append_right _ (List.mem_append_left _ (List.mem_of_getElem? (i := 114) rfl)))), by rfl⟩
theorem jw745 : (.methodLink R_La 32 y_Mo_nodes : Cond) ∈ gw := List.mem_filter.mpr ⟨List.mem_append_right _ (List.mem_append_right _ (List.mem_append_right _ (List.mem_append_right _ (List.mem_append_right _ (List.mem_of_getElem? (i := 11) rfl))))), by rfl⟩
theorem jw746 : (.code y_Mo_nodes b_Mo_nodes 2 (some .int) : Cond) ∈ gw := List.mem_filter.mpr ⟨List.mem_append_right _ (List.mem_append_right _ (List.mem_append_right _ (List.mem_append_right _ (List.mem_append_right _ (List.mem_of_getElem? (i := 14) rfl))))), by rfl⟩
theorem jw747 : (.instanceMethod y_Mo_nodes : Cond) ∈ gw := List.mem_filter.mpr ⟨List.mem_append_right _ (List.mem_append_right _ (List.mem_append_right _ (List.mem_append_right _ (List.mem_append_right _ (List.mem_of_getElem? (i := 12) rfl))))), by rfl⟩
theorem jw748 : (.selects R_Mo y_Mo_nodes y_Mo_nodes : Cond) ∈ gw := List.mem_filter.mpr ⟨List.mem_append_right _ (List.mem_append_right _ (List.mem_append_right _ (List.mem_append_right _ (List.mem_append_right _ (List.mem_of_getElem? (i := 13) rfl))))), by rfl⟩
theorem jw749 : (.methodLink R_La 33 y_TR_node : Cond) ∈ gw := List.mem_filter.mpr ⟨List.mem_append_right _ (List.mem_append_right _ (List.mem_append_right _ (List.mem_append_left _ (List.mem_of_getElem? (i := 116) rfl)))), by rfl⟩
theorem jw750 : (.code y_TR_node b_TR_node 5 (some .int) : Cond) ∈ gw := List.mem_filter.mpr ⟨List.mem_append_right _ (List.mem_append_right _ (List.mem_append_right _ (List.mem_append_left _ (List.mem_of_getElem? (i := 119) rfl)))), by rfl⟩
theorem jw751 : (.instanceMethod y_TR_node : Cond) ∈ gw := List.mem_filter.mpr ⟨List.mem_append_right _ (List.mem_append_right _ (List.mem_append_right _ (List.mem_append_left _ (List.mem_of_getElem? (i := 117) rfl)))), by rfl⟩
theorem jw752 : (.selects R_TR y_TR_node y_TR_node : Cond) ∈ gw := List.mem_filter.mpr ⟨List.mem_append_right _ (List.mem_append_right _ (List.mem_append_right _ (List.mem_append_left _ (List.mem_of_getElem? (i := 118) rfl)))), by rfl⟩
theorem jw753 : (.methodLink R_La 37 y_Mo_node : Cond) ∈ gw := List.mem_filter.mpr ⟨List.mem_append_right _ (List.mem_append_right _ (List.mem_append_right _ (List.mem_append_right _ (List.mem_append_right _ (List.mem_of_getElem? (i := 23) rfl))))), by rfl⟩
theorem jw754 : (.code y_Mo_node b_Mo_node 5 (some .int) : Cond) ∈ gw := List.mem_filter.mpr ⟨List.mem_append_right _ (List.mem_append_right _ (List.mem_append_right _ (List.mem_append_right _ (List.mem_append_right _ (List.mem_of_getElem? (i := 26) rfl))))), by rfl⟩
theorem jw755 : (.instanceMethod y_Mo_node : Cond) ∈ gw := List.mem_filter.mpr ⟨List.mem_append_right _ (List.mem_append_right _ (List.mem_append_right _ (List.mem_append_right _ (List.mem_append_right _ (List.mem_of_getElem? (i := 24) rfl))))), by rfl⟩
theorem jw756 : (.selects R_Mo y_Mo_node y_Mo_node : Cond) ∈ gw := List.mem_filter.mpr ⟨List.mem_append_right _ (List.mem_append_right _ (List.mem_append_right _ (List.mem_append_right _ (List.mem_append_right _ (List.mem_of_getElem? (i := 25) rfl))))), by rfl⟩
theorem jw757 : (.methodLink R_La 38 y_TR_part : Cond) ∈ gw := List.mem_filter.mpr ⟨List.mem_append_right _ (List.mem_append_right _ (List.mem_append_right _ (List.mem_append_left _ (List.mem_of_getElem? (i := 120) rfl)))), by rfl⟩
theorem jw758 : (.code y_TR_part b_TR_part 5 (some .int) : Cond) ∈ gw := List.mem_filter.mpr ⟨List.mem_append_right _ (List.mem_append_right _ (List.mem_append_right _ (List.mem_append_left _ (List.mem_of_getElem? (i := 123) rfl)))), by rfl⟩
theorem jw759 : (.instanceMethod y_TR_part : Cond) ∈ gw := List.mem_filter.mpr ⟨List.mem_append_right _ (List.mem_append_right _ (List.mem_append_right _ (List.mem_append_left _ (List.mem_of_getElem? (i := 121) rfl)))), by rfl⟩
theorem jw760 : (.selects R_TR y_TR_part y_TR_part : Cond) ∈ gw := List.mem_filter.mpr ⟨List.mem_append_right _ (List.mem_append_right _ (List.mem_append_right _ (List.mem_append_left _ (List.mem_of_getElem? (i := 122) rfl)))), by rfl⟩
theorem jw761 : (.methodLink R_La 41 y_Mo_part : Cond) ∈ gw := List.mem_filter.mpr ⟨List.mem_append_right _ (List.mem_append_right _ (List.mem_append_right _ (List.mem_append_right _ (List.mem_append_right _ (List.mem_of_getElem? (i := 15) rfl))))), by rfl⟩
theorem jw762 : (.methodLink R_La 42 y_TR_whole : Cond) ∈ gw := List.mem_filter.mpr ⟨List.mem_append_right _ (List.mem_append_right _ (List.mem_append_right _ (List.mem_append_left _ (List.mem_of_getElem? (i := 128) rfl)))), by rfl⟩
theorem jw763 : (.code y_TR_whole b_TR_whole 4 (some .int) : Cond) ∈ gw := List.mem_filter.mpr ⟨List.mem_append_right _ (List.mem_append_right _ (List.mem_append_right _ (List.mem_append_left _ (List.mem_of_getElem? (i := 131) rfl)))), by rfl⟩
theorem jw764 : (.instanceMethod y_TR_whole : Cond) ∈ gw := List.mem_filter.mpr ⟨List.mem_append_right _ (List.mem_append_right _ (List.mem_append_right _ (List.mem_append_left _ (List.mem_of_getElem? (i := 129) rfl)))), by rfl⟩
theorem jw765 : (.selects R_TR y_TR_whole y_TR_whole : Cond) ∈ gw := List.mem_filter.mpr ⟨List.mem_append_right _ (List.mem_append_right _ (List.mem_append_right _ (List.mem_append_left _ (List.mem_of_getElem? (i := 130) rfl)))), by rfl⟩
theorem jw766 : (.methodLink R_La 45 y_Mo_whole : Cond) ∈ gw := List.mem_filter.mpr ⟨List.mem_append_right _ (List.mem_append_right _ (List.mem_append_right _ (List.mem_append_right _ (List.mem_append_right _ (List.mem_of_getElem? (i := 32) rfl))))), by rfl⟩
theorem jw767 : (.code y_Mo_whole b_Mo_whole 3 (some .int) : Cond) ∈ gw := List.mem_filter.mpr ⟨List.mem_append_right _ (List.mem_append_right _ (List.mem_append_right _ (List.mem_append_right _ (List.mem_append_right _ (List.mem_of_getElem? (i := 35) rfl))))), by rfl⟩
theorem jw768 : (.instanceMethod y_Mo_whole : Cond) ∈ gw := List.mem_filter.mpr ⟨List.mem_append_right _ (List.mem_append_right _ (List.mem_append_right _ (List.mem_append_right _ (List.mem_append_right _ (List.mem_of_getElem? (i := 33) rfl))))), by rfl⟩
theorem jw769 : (.selects R_Mo y_Mo_whole y_Mo_whole : Cond) ∈ gw := List.mem_filter.mpr ⟨List.mem_append_right _ (List.mem_append_right _ (List.mem_append_right _ (List.mem_append_right _ (List.mem_append_right _ (List.mem_of_getElem? (i := 34) rfl))))), by rfl⟩
theorem jw770 : (.methodLink R_La 46 y_TR_names : Cond) ∈ gw := List.mem_filter.mpr ⟨List.mem_append_right _ (List.mem_append_right _ (List.mem_append_right _ (List.mem_append_left _ (List.mem_of_getElem? (i := 136) rfl)))), by rfl⟩
theorem jw771 : (.code y_TR_names b_TR_names 1 (some .int) : Cond) ∈ gw := List.mem_filter.mpr ⟨List.mem_append_right _ (List.mem_append_right _ (List.mem_append_right _ (List.mem_append_left _ (List.mem_of_getElem? (i := 139) rfl)))), by rfl⟩
theorem jw772 : (.instanceMethod y_TR_names : Cond) ∈ gw := List.mem_filter.mpr ⟨List.mem_append_right _ (List.mem_append_right _ (List.mem_append_right _ (List.mem_append_left _ (List.mem_of_getElem? (i := 137) rfl)))), by rfl⟩
theorem jw773 : (.selects R_TR y_TR_names y_TR_names : Cond) ∈ gw := List.mem_filter.mpr ⟨List.mem_append_right _ (List.mem_append_right _ (List.mem_append_right _ (List.mem_append_left _ (List.mem_of_getElem? (i := 138) rfl)))), by rfl⟩
theorem jw774 : (.methodLink R_La 49 y_Mo_names : Cond) ∈ gw := List.mem_filter.mpr ⟨List.mem_append_right _ (List.mem_append_right _ (List.mem_append_right _ (List.mem_append_right _ (List.mem_append_right _ (List.mem_of_getElem? (i := 36) rfl))))), by rfl⟩
theorem jw775 : (.code y_Mo_names b_Mo_names 1 (some .int) : Cond) ∈ gw := List.mem_filter.mpr ⟨List.mem_append_right _ (List.mem_append_right _ (List.mem_append_right _ (List.mem_append_right _ (List.mem_append_right _ (List.mem_of_getElem? (i := 39) rfl))))), by rfl⟩
theorem jw776 : (.instanceMethod y_Mo_names : Cond) ∈ gw := List.mem_filter.mpr ⟨List.mem_append_right _ (List.mem_append_right _ (List.mem_append_right _ (List.mem_append_right _ (List.mem_append_right _ (List.mem_of_getElem? (i := 37) rfl))))), by rfl⟩
theorem jw777 : (.selects R_Mo y_Mo_names y_Mo_names : Cond) ∈ gw := List.mem_filter.mpr ⟨List.mem_append_right _ (List.mem_append_right _ (List.mem_append_right _ (List.mem_append_right _ (List.mem_append_right _ (List.mem_of_getElem? (i := 38) rfl))))), by rfl⟩
theorem jw778 : (.methodLink R_La 50 y_TR_spelt : Cond) ∈ gw := List.mem_filter.mpr ⟨List.mem_append_right _ (List.mem_append_right _ (List.mem_append_right _ (List.mem_append_left _ (List.mem_of_getElem? (i := 140) rfl)))), by rfl⟩
theorem jw779 : (.code y_TR_spelt b_TR_spelt 3 (some .int) : Cond) ∈ gw := List.mem_filter.mpr ⟨List.mem_append_right _ (List.mem_append_right _ (List.mem_append_right _ (List.mem_append_left _ (List.mem_of_getElem? (i := 143) rfl)))), by rfl⟩
theorem jw780 : (.instanceMethod y_TR_spelt : Cond) ∈ gw := List.mem_filter.mpr ⟨List.mem_append_right _ (List.mem_append_right _ (List.mem_append_right _ (List.mem_append_left _ (List.mem_of_getElem? (i := 141) rfl)))), by rfl⟩
theorem jw781 : (.selects R_TR y_TR_spelt y_TR_spelt : Cond) ∈ gw := List.mem_filter.mpr ⟨List.mem_append_right _ (List.mem_append_right _ (List.mem_append_right _ (List.mem_append_left _ (List.mem_of_getElem? (i := 142) rfl)))), by rfl⟩
theorem jw782 : (.methodLink R_La 53 y_Mo_spelt : Cond) ∈ gw := List.mem_filter.mpr ⟨List.mem_append_right _ (List.mem_append_right _ (List.mem_append_right _ (List.mem_append_right _ (List.mem_append_right _ (List.mem_of_getElem? (i := 40) rfl))))), by rfl⟩
theorem jw783 : (.code y_Mo_spelt b_Mo_spelt 3 (some .int) : Cond) ∈ gw := List.mem_filter.mpr ⟨List.mem_append_right _ (List.mem_append_right _ (List.mem_append_right _ (List.mem_append_right _ (List.mem_append_right _ (List.mem_of_getElem? (i := 43) rfl))))), by rfl⟩
theorem jw784 : (.instanceMethod y_Mo_spelt : Cond) ∈ gw := List.mem_filter.mpr ⟨List.mem_append_right _ (List.mem_append_right _ (List.mem_append_right _ (List.mem_append_right _ (List.mem_append_right _ (List.mem_of_getElem? (i := 41) rfl))))), by rfl⟩
theorem jw785 : (.selects R_Mo y_Mo_spelt y_Mo_spelt : Cond) ∈ gw := List.mem_filter.mpr ⟨List.mem_append_right _ (List.mem_append_right _ (List.mem_append_right _ (List.mem_append_right _ (List.mem_append_right _ (List.mem_of_getElem? (i := 42) rfl))))), by rfl⟩
theorem jw786 : (.methodLink R_La 54 y_TR_write : Cond) ∈ gw := List.mem_filter.mpr ⟨List.mem_append_right _ (List.mem_append_right _ (List.mem_append_right _ (List.mem_append_left _ (List.mem_of_getElem? (i := 145) rfl)))), by rfl⟩
theorem jw787 : (.code y_TR_write b_TR_write 4 (some .int) : Cond) ∈ gw := List.mem_filter.mpr ⟨List.mem_append_right _ (List.mem_append_right _ (List.mem_append_right _ (List.mem_append_left _ (List.mem_of_getElem? (i := 148) rfl)))), by rfl⟩
theorem jw788 : (.instanceMethod y_TR_write : Cond) ∈ gw := List.mem_filter.mpr ⟨List.mem_append_right _ (List.mem_append_right _ (List.mem_append_right _ (List.mem_append_left _ (List.mem_of_getElem? (i := 146) rfl)))), by rfl⟩
theorem jw789 : (.selects R_TR y_TR_write y_TR_write : Cond) ∈ gw := List.mem_filter.mpr ⟨List.mem_append_right _ (List.mem_append_right _ (List.mem_append_right _ (List.mem_append_left _ (List.mem_of_getElem? (i := 147) rfl)))), by rfl⟩
theorem jw790 : (.methodLink R_La 57 y_Mo_write : Cond) ∈ gw := List.mem_filter.mpr ⟨List.mem_append_right _ (List.mem_append_right _ (List.mem_append_right _ (List.mem_append_right _ (List.mem_append_right _ (List.mem_of_getElem? (i := 48) rfl))))), by rfl⟩
theorem jw791 : (.code y_Mo_write b_Mo_write 4 (some .int) : Cond) ∈ gw := List.mem_filter.mpr ⟨List.mem_append_right _ (List.mem_append_right _ (List.mem_append_right _ (List.mem_append_right _ (List.mem_append_right _ (List.mem_of_getElem? (i := 51) rfl))))), by rfl⟩
theorem jw792 : (.instanceMethod y_Mo_write : Cond) ∈ gw := List.mem_filter.mpr ⟨List.mem_append_right _ (List.mem_append_right _ (List.mem_append_right _ (List.mem_append_right _ (List.mem_append_right _ (List.mem_of_getElem? (i := 49) rfl))))), by rfl⟩
theorem jw793 : (.selects R_Mo y_Mo_write y_Mo_write : Cond) ∈ gw := List.mem_filter.mpr ⟨List.mem_append_right _ (List.mem_append_right _ (List.mem_append_right _ (List.mem_append_right _ (List.mem_append_right _ (List.mem_of_getElem? (i := 50) rfl))))), by rfl⟩
theorem jw794 : (.methodLink R_La 58 y_TR_written : Cond) ∈ gw := List.mem_filter.mpr ⟨List.mem_append_right _ (List.mem_append_right _ (List.mem_append_right _ (List.mem_append_left _ (List.mem_of_getElem? (i := 233) rfl)))), by rfl⟩
theorem jw795 : (.code y_TR_written b_TR_written 2 (some .int) : Cond) ∈ gw := List.mem_filter.mpr ⟨List.mem_append_right _ (List.mem_append_right _ (List.mem_append_right _ (List.mem_append_left _ (List.mem_of_getElem? (i := 236) rfl)))), by rfl⟩
theorem jw796 : (.instanceMethod y_TR_written : Cond) ∈ gw := List.mem_filter.mpr ⟨List.mem_append_right _ (List.mem_append_right _ (List.mem_append_right _ (List.mem_append_left _ (List.mem_of_getElem? (i := 234) rfl)))), by rfl⟩
theorem jw797 : (.selects R_TR y_TR_written y_TR_written : Cond) ∈ gw := List.mem_filter.mpr ⟨List.mem_append_right _ (List.mem_append_right _ (List.mem_append_right _ (List.mem_append_left _ (List.mem_of_getElem? (i := 235) rfl)))), by rfl⟩
theorem jw798 : (.methodLink R_La 61 y_Mo_written : Cond) ∈ gw := List.mem_filter.mpr ⟨List.mem_append_right _ (List.mem_append_right _ (List.mem_append_right _ (List.mem_append_right _ (List.mem_append_right _ (List.mem_of_getElem? (i := 106) rfl))))), by rfl⟩
theorem jw799 : (.code y_Mo_written b_Mo_written 2 (some .int) : Cond) ∈ gw := List.mem_filter.mpr ⟨List.mem_append_right _ (List.mem_append_right _ (List.mem_append_right _ (List.mem_append_right _ (List.mem_append_right _ (List.mem_of_getElem? (i := 109) rfl))))), by rfl⟩
theorem jw800 : (.instanceMethod y_Mo_written : Cond) ∈ gw := List.mem_filter.mpr ⟨List.mem_append_right _ (List.mem_append_right _ (List.mem_append_right _ (List.mem_append_right _ (List.mem_append_right _ (List.mem_of_getElem? (i := 107) rfl))))), by rfl⟩
theorem jw801 : (.selects R_Mo y_Mo_written y_Mo_written : Cond) ∈ gw := List.mem_filter.mpr ⟨List.mem_append_right _ (List.mem_append_right _ (List.mem_append_right _ (List.mem_append_right _ (List.mem_append_right _ (List.mem_of_getElem? (i := 108) rfl))))), by rfl⟩
theorem jw802 : (.methodLink R_La 62 y_TR_again : Cond) ∈ gw := List.mem_filter.mpr ⟨List.mem_append_right _ (List.mem_append_right _ (List.mem_append_right _ (List.mem_append_left _ (List.mem_of_getElem? (i := 238) rfl)))), by rfl⟩
theorem jw803 : (.code y_TR_again b_TR_again 1 (some .int) : Cond) ∈ gw := List.mem_filter.mpr ⟨List.mem_append_right _ (List.mem_append_right _ (List.mem_append_right _ (List.mem_append_right _ (List.mem_append_left _ (List.mem_of_getElem? (i := 1) rfl))))), by rfl⟩
theorem jw804 : (.instanceMethod y_TR_again : Cond) ∈ gw := List.mem_filter.mpr ⟨List.mem_append_right _ (List.mem_append_right _ (List.mem_append_right _ (List.mem_append_left _ (List.mem_of_getElem? (i := 239) rfl)))), by rfl⟩
theorem jw805 : (.selects R_TR y_TR_again y_TR_again : Cond) ∈ gw := List.mem_filter.mpr ⟨List.mem_append_right _ (List.mem_append_right _ (List.mem_append_right _ (List.mem_append_right _ (List.mem_append_left _ (List.mem_of_getElem? (i := 0) rfl))))), by rfl⟩
theorem jw806 : (.methodLink R_La 65 y_Mo_again : Cond) ∈ gw := List.mem_filter.mpr ⟨List.mem_append_right _ (List.mem_append_right _ (List.mem_append_right _ (List.mem_append_right _ (List.mem_append_right _ (List.mem_of_getElem? (i := 110) rfl))))), by rfl⟩
theorem jw807 : (.code y_Mo_again b_Mo_again 2 (some .int) : Cond) ∈ gw := List.mem_filter.mpr ⟨List.mem_append_right _ (List.mem_append_right _ (List.mem_append_right _ (List.mem_append_right _ (List.mem_append_right _ (List.mem_of_getElem? (i := 113) rfl))))), by rfl⟩
theorem jw808 : (.instanceMethod y_Mo_again : Cond) ∈ gw := List.mem_filter.mpr ⟨List.mem_append_right _ (List.mem_append_right _ (List.mem_append_right _ (List.mem_append_right _ (List.mem_append_right _ (List.mem_of_getElem? (i := 111) rfl))))), by rfl⟩
theorem jw809 : (.selects R_Mo y_Mo_again y_Mo_again : Cond) ∈ gw := List.mem_filter.mpr ⟨List.mem_append_right _ (List.mem_append_right _ (List.mem_append_right _ (List.mem_append_right _ (List.mem_append_right _ (List.mem_of_getElem? (i := 112) rfl))))), by rfl⟩
theorem jw810 : (.methodLink R_La 66 y_TR_same : Cond) ∈ gw := List.mem_filter.mpr ⟨List.mem_append_right _ (List.mem_append_right _ (List.mem_append_right _ (List.mem_append_right _ (List.mem_append_left _ (List.mem_of_getElem? (i := 9) rfl))))), by rfl⟩
theorem jw811 : (.code y_TR_same b_TR_same 1 (some .boolean) : Cond) ∈ gw := List.mem_filter.mpr ⟨List.mem_append_right _ (List.mem_append_right _ (List.mem_append_right _ (List.mem_append_right _ (List.mem_append_left _ (List.mem_of_getElem? (i := 12) rfl))))), by rfl⟩
theorem jw812 : (.instanceMethod y_TR_same : Cond) ∈ gw := List.mem_filter.mpr ⟨List.mem_append_right _ (List.mem_append_right _ (List.mem_append_right _ (List.mem_append_right _ (List.mem_append_left _ (List.mem_of_getElem? (i := 10) rfl))))), by rfl⟩
theorem jw813 : (.selects R_TR y_TR_same y_TR_same : Cond) ∈ gw := List.mem_filter.mpr ⟨List.mem_append_right _ (List.mem_append_right _ (List.mem_append_right _ (List.mem_append_right _ (List.mem_append_left _ (List.mem_of_getElem? (i := 11) rfl))))), by rfl⟩
theorem jw814 : (.methodLink R_La 70 y_Mo_same : Cond) ∈ gw := List.mem_filter.mpr ⟨List.mem_append_right _ (List.mem_append_right _ (List.mem_append_right _ (List.mem_append_right _ (List.mem_append_right _ (List.mem_of_getElem? (i := 44) rfl))))), by rfl⟩
theorem jw815 : (.code y_Mo_same b_Mo_same 3 (some .boolean) : Cond) ∈ gw := List.mem_filter.mpr ⟨List.mem_append_right _ (List.mem_append_right _ (List.mem_append_right _ (List.mem_append_right _ (List.mem_append_right _ (List.mem_of_getElem? (i := 47) rfl))))), by rfl⟩
theorem jw816 : (.instanceMethod y_Mo_same : Cond) ∈ gw := List.mem_filter.mpr ⟨List.mem_append_right _ (List.mem_append_right _ (List.mem_append_right _ (List.mem_append_right _ (List.mem_append_right _ (List.mem_of_getElem? (i := 45) rfl))))), by rfl⟩
theorem jw817 : (.selects R_Mo y_Mo_same y_Mo_same : Cond) ∈ gw := List.mem_filter.mpr ⟨List.mem_append_right _ (List.mem_append_right _ (List.mem_append_right _ (List.mem_append_right _ (List.mem_append_right _ (List.mem_of_getElem? (i := 46) rfl))))), by rfl⟩
