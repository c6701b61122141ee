-- ===== PART A: goes FIRST, ahead of the names: the tables' words, and 'selects' of the private methods out of them =====
/-- a private method of a class that the tables say can be made, by its rows of tables_1 -/
def lw_okq (q : MethodName × Nat) : Prop := (q.1.cls ≠ "java/lang/invoke/MethodHandle" ∧ q.1.cls ≠ "java/lang/invoke/VarHandle") ∧ Cond.instantiable q.1.cls q.2 ∈ tables_1 ∧ Cond.privateMethod q.1 ∈ tables_1 ∧ Cond.instanceMethod q.1 ∈ tables_1
theorem lw_p0 : lw_okq (⟨"KinProver", "unsettle", "()V"⟩, 14) := ⟨⟨by decide +kernel, by decide +kernel⟩, List.mem_of_getElem? (i := 20) (by decide +kernel), List.mem_of_getElem? (i := 410) (by decide +kernel), List.mem_of_getElem? (i := 411) (by decide +kernel)⟩
theorem lw_p1 : lw_okq (⟨"KinProver$Reader", "takeNumber", "(LKinProver$Text;II)I"⟩, 8) := ⟨⟨by decide +kernel, by decide +kernel⟩, List.mem_of_getElem? (i := 111) (by decide +kernel), List.mem_of_getElem? (i := 439) (by decide +kernel), List.mem_of_getElem? (i := 440) (by decide +kernel)⟩
theorem lw_p2 : lw_okq (⟨"KinProver$Book", "isNamed", "(ILKinProver$Text;)Z"⟩, 11) := ⟨⟨by decide +kernel, by decide +kernel⟩, List.mem_of_getElem? (i := 28) (by decide +kernel), List.mem_of_getElem? (i := 505) (by decide +kernel), List.mem_of_getElem? (i := 506) (by decide +kernel)⟩
theorem lw_p3 : lw_okq (⟨"KinProver$Book", "compareNames", "(II)I"⟩, 11) := ⟨⟨by decide +kernel, by decide +kernel⟩, List.mem_of_getElem? (i := 28) (by decide +kernel), List.mem_of_getElem? (i := 518) (by decide +kernel), List.mem_of_getElem? (i := 519) (by decide +kernel)⟩
theorem lw_p4 : lw_okq (⟨"KinProver", "settle", "()V"⟩, 14) := ⟨⟨by decide +kernel, by decide +kernel⟩, List.mem_of_getElem? (i := 20) (by decide +kernel), List.mem_of_getElem? (i := 526) (by decide +kernel), List.mem_of_getElem? (i := 527) (by decide +kernel)⟩
theorem lw_p5 : lw_okq (⟨"KinProver$Folk", "wipe", "()V"⟩, 13) := ⟨⟨by decide +kernel, by decide +kernel⟩, List.mem_of_getElem? (i := 154) (by decide +kernel), List.mem_of_getElem? (i := 539) (by decide +kernel), List.mem_of_getElem? (i := 540) (by decide +kernel)⟩
theorem lw_p6 : lw_okq (⟨"KinProver$Folk", "joinSames", "(LKinProver$Book;[II)V"⟩, 13) := ⟨⟨by decide +kernel, by decide +kernel⟩, List.mem_of_getElem? (i := 154) (by decide +kernel), List.mem_of_getElem? (i := 543) (by decide +kernel), List.mem_of_getElem? (i := 544) (by decide +kernel)⟩
theorem lw_p7 : lw_okq (⟨"KinProver$Folk", "rename", "(III)V"⟩, 13) := ⟨⟨by decide +kernel, by decide +kernel⟩, List.mem_of_getElem? (i := 154) (by decide +kernel), List.mem_of_getElem? (i := 553) (by decide +kernel), List.mem_of_getElem? (i := 554) (by decide +kernel)⟩
theorem lw_p8 : lw_okq (⟨"KinProver$Folk", "hear", "(LKinProver$Book;I)V"⟩, 13) := ⟨⟨by decide +kernel, by decide +kernel⟩, List.mem_of_getElem? (i := 154) (by decide +kernel), List.mem_of_getElem? (i := 563) (by decide +kernel), List.mem_of_getElem? (i := 564) (by decide +kernel)⟩
theorem lw_p9 : lw_okq (⟨"KinProver$Folk", "climb", "()V"⟩, 13) := ⟨⟨by decide +kernel, by decide +kernel⟩, List.mem_of_getElem? (i := 154) (by decide +kernel), List.mem_of_getElem? (i := 567) (by decide +kernel), List.mem_of_getElem? (i := 568) (by decide +kernel)⟩
theorem lw_p10 : lw_okq (⟨"KinProver$Folk", "generationOver", "(I)I"⟩, 13) := ⟨⟨by decide +kernel, by decide +kernel⟩, List.mem_of_getElem? (i := 154) (by decide +kernel), List.mem_of_getElem? (i := 581) (by decide +kernel), List.mem_of_getElem? (i := 582) (by decide +kernel)⟩
theorem lw_p11 : lw_okq (⟨"KinProver$World", "note", "(II)V"⟩, 7) := ⟨⟨by decide +kernel, by decide +kernel⟩, List.mem_of_getElem? (i := 148) (by decide +kernel), List.mem_of_getElem? (i := 593) (by decide +kernel), List.mem_of_getElem? (i := 594) (by decide +kernel)⟩
theorem lw_p12 : lw_okq (⟨"KinProver$World", "takeRules", "(LKinProver$Book;)V"⟩, 7) := ⟨⟨by decide +kernel, by decide +kernel⟩, List.mem_of_getElem? (i := 148) (by decide +kernel), List.mem_of_getElem? (i := 602) (by decide +kernel), List.mem_of_getElem? (i := 603) (by decide +kernel)⟩
theorem lw_p13 : lw_okq (⟨"KinProver$Ranges", "addLess", "(IIIII)V"⟩, 12) := ⟨⟨by decide +kernel, by decide +kernel⟩, List.mem_of_getElem? (i := 208) (by decide +kernel), List.mem_of_getElem? (i := 617) (by decide +kernel), List.mem_of_getElem? (i := 618) (by decide +kernel)⟩
theorem lw_p14 : lw_okq (⟨"KinProver$Ranges", "addIn", "(IIII)V"⟩, 12) := ⟨⟨by decide +kernel, by decide +kernel⟩, List.mem_of_getElem? (i := 208) (by decide +kernel), List.mem_of_getElem? (i := 625) (by decide +kernel), List.mem_of_getElem? (i := 626) (by decide +kernel)⟩
theorem lw_p15 : lw_okq (⟨"KinProver$Ranges", "addMarriedOne", "(II)V"⟩, 12) := ⟨⟨by decide +kernel, by decide +kernel⟩, List.mem_of_getElem? (i := 208) (by decide +kernel), List.mem_of_getElem? (i := 630) (by decide +kernel), List.mem_of_getElem? (i := 631) (by decide +kernel)⟩
def lw_privs_1 : List (MethodName × Nat) := [(⟨"KinProver", "unsettle", "()V"⟩, 14), (⟨"KinProver$Reader", "takeNumber", "(LKinProver$Text;II)I"⟩, 8), (⟨"KinProver$Book", "isNamed", "(ILKinProver$Text;)Z"⟩, 11), (⟨"KinProver$Book", "compareNames", "(II)I"⟩, 11), (⟨"KinProver", "settle", "()V"⟩, 14), (⟨"KinProver$Folk", "wipe", "()V"⟩, 13), (⟨"KinProver$Folk", "joinSames", "(LKinProver$Book;[II)V"⟩, 13), (⟨"KinProver$Folk", "rename", "(III)V"⟩, 13), (⟨"KinProver$Folk", "hear", "(LKinProver$Book;I)V"⟩, 13), (⟨"KinProver$Folk", "climb", "()V"⟩, 13), (⟨"KinProver$Folk", "generationOver", "(I)I"⟩, 13), (⟨"KinProver$World", "note", "(II)V"⟩, 7), (⟨"KinProver$World", "takeRules", "(LKinProver$Book;)V"⟩, 7), (⟨"KinProver$Ranges", "addLess", "(IIIII)V"⟩, 12), (⟨"KinProver$Ranges", "addIn", "(IIII)V"⟩, 12), (⟨"KinProver$Ranges", "addMarriedOne", "(II)V"⟩, 12)]
theorem lw_r1 : ∀ q ∈ lw_privs_1, lw_okq q := List.forall_mem_cons.mpr ⟨lw_p0, List.forall_mem_cons.mpr ⟨lw_p1, List.forall_mem_cons.mpr ⟨lw_p2, List.forall_mem_cons.mpr ⟨lw_p3, List.forall_mem_cons.mpr ⟨lw_p4, List.forall_mem_cons.mpr ⟨lw_p5, List.forall_mem_cons.mpr ⟨lw_p6, List.forall_mem_cons.mpr ⟨lw_p7, List.forall_mem_cons.mpr ⟨lw_p8, List.forall_mem_cons.mpr ⟨lw_p9, List.forall_mem_cons.mpr ⟨lw_p10, List.forall_mem_cons.mpr ⟨lw_p11, List.forall_mem_cons.mpr ⟨lw_p12, List.forall_mem_cons.mpr ⟨lw_p13, List.forall_mem_cons.mpr ⟨lw_p14, List.forall_mem_cons.mpr ⟨lw_p15, fun _ h => absurd h List.not_mem_nil⟩⟩⟩⟩⟩⟩⟩⟩⟩⟩⟩⟩⟩⟩⟩⟩
theorem lw_p16 : lw_okq (⟨"KinProver$Ranges", "apply", "(I)V"⟩, 12) := ⟨⟨by decide +kernel, by decide +kernel⟩, List.mem_of_getElem? (i := 208) (by decide +kernel), List.mem_of_getElem? (i := 639) (by decide +kernel), List.mem_of_getElem? (i := 640) (by decide +kernel)⟩
theorem lw_p17 : lw_okq (⟨"KinProver$Ranges", "raise", "(IIII)V"⟩, 12) := ⟨⟨by decide +kernel, by decide +kernel⟩, List.mem_of_getElem? (i := 208) (by decide +kernel), List.mem_of_getElem? (i := 643) (by decide +kernel), List.mem_of_getElem? (i := 644) (by decide +kernel)⟩
theorem lw_p18 : lw_okq (⟨"KinProver$Ranges", "change", "(IIII)V"⟩, 12) := ⟨⟨by decide +kernel, by decide +kernel⟩, List.mem_of_getElem? (i := 208) (by decide +kernel), List.mem_of_getElem? (i := 647) (by decide +kernel), List.mem_of_getElem? (i := 648) (by decide +kernel)⟩
theorem lw_p19 : lw_okq (⟨"KinProver$Ranges", "lower", "(IIII)V"⟩, 12) := ⟨⟨by decide +kernel, by decide +kernel⟩, List.mem_of_getElem? (i := 208) (by decide +kernel), List.mem_of_getElem? (i := 651) (by decide +kernel), List.mem_of_getElem? (i := 652) (by decide +kernel)⟩
theorem lw_p20 : lw_okq (⟨"KinProver$World", "isBornAhead", "(II)Z"⟩, 7) := ⟨⟨by decide +kernel, by decide +kernel⟩, List.mem_of_getElem? (i := 148) (by decide +kernel), List.mem_of_getElem? (i := 659) (by decide +kernel), List.mem_of_getElem? (i := 660) (by decide +kernel)⟩
theorem lw_p21 : lw_okq (⟨"KinProver", "isEnd", "(III)Z"⟩, 14) := ⟨⟨by decide +kernel, by decide +kernel⟩, List.mem_of_getElem? (i := 20) (by decide +kernel), List.mem_of_getElem? (i := 681) (by decide +kernel), List.mem_of_getElem? (i := 682) (by decide +kernel)⟩
theorem lw_p22 : lw_okq (⟨"KinProver$Ranges", "follow", "(II)I"⟩, 12) := ⟨⟨by decide +kernel, by decide +kernel⟩, List.mem_of_getElem? (i := 208) (by decide +kernel), List.mem_of_getElem? (i := 703) (by decide +kernel), List.mem_of_getElem? (i := 704) (by decide +kernel)⟩
theorem lw_p23 : lw_okq (⟨"KinProver", "settleCulprits", "()V"⟩, 14) := ⟨⟨by decide +kernel, by decide +kernel⟩, List.mem_of_getElem? (i := 20) (by decide +kernel), List.mem_of_getElem? (i := 737) (by decide +kernel), List.mem_of_getElem? (i := 738) (by decide +kernel)⟩
theorem lw_p24 : lw_okq (⟨"KinProver", "arePersons", "(II)Z"⟩, 14) := ⟨⟨by decide +kernel, by decide +kernel⟩, List.mem_of_getElem? (i := 20) (by decide +kernel), List.mem_of_getElem? (i := 745) (by decide +kernel), List.mem_of_getElem? (i := 746) (by decide +kernel)⟩
theorem lw_p25 : lw_okq (⟨"KinProver", "workOneMore", "()V"⟩, 14) := ⟨⟨by decide +kernel, by decide +kernel⟩, List.mem_of_getElem? (i := 20) (by decide +kernel), List.mem_of_getElem? (i := 753) (by decide +kernel), List.mem_of_getElem? (i := 754) (by decide +kernel)⟩
theorem lw_p26 : lw_okq (⟨"KinProver", "seekWays", "(II)V"⟩, 14) := ⟨⟨by decide +kernel, by decide +kernel⟩, List.mem_of_getElem? (i := 20) (by decide +kernel), List.mem_of_getElem? (i := 772) (by decide +kernel), List.mem_of_getElem? (i := 773) (by decide +kernel)⟩
theorem lw_p27 : lw_okq (⟨"KinProver$Ways", "isNearer", "(I)Z"⟩, 5) := ⟨⟨by decide +kernel, by decide +kernel⟩, List.mem_of_getElem? (i := 284) (by decide +kernel), List.mem_of_getElem? (i := 784) (by decide +kernel), List.mem_of_getElem? (i := 785) (by decide +kernel)⟩
theorem lw_p28 : lw_okq (⟨"KinProver$Ways", "descend", "(LKinProver$Folk;[II)I"⟩, 5) := ⟨⟨by decide +kernel, by decide +kernel⟩, List.mem_of_getElem? (i := 284) (by decide +kernel), List.mem_of_getElem? (i := 800) (by decide +kernel), List.mem_of_getElem? (i := 801) (by decide +kernel)⟩
theorem lw_p29 : lw_okq (⟨"KinProverModel", "works", "()V"⟩, 31) := ⟨⟨by decide +kernel, by decide +kernel⟩, List.mem_of_getElem? (i := 1009) (by decide +kernel), List.mem_of_getElem? (i := 1015) (by decide +kernel), List.mem_of_getElem? (i := 1016) (by decide +kernel)⟩
theorem lw_p30 : lw_okq (⟨"KinProverModel", "joins", "()V"⟩, 31) := ⟨⟨by decide +kernel, by decide +kernel⟩, List.mem_of_getElem? (i := 1009) (by decide +kernel), List.mem_of_getElem? (i := 1019) (by decide +kernel), List.mem_of_getElem? (i := 1020) (by decide +kernel)⟩
theorem lw_p31 : lw_okq (⟨"KinProverModel", "isLive", "(II)Z"⟩, 31) := ⟨⟨by decide +kernel, by decide +kernel⟩, List.mem_of_getElem? (i := 1009) (by decide +kernel), List.mem_of_getElem? (i := 1023) (by decide +kernel), List.mem_of_getElem? (i := 1024) (by decide +kernel)⟩
def lw_privs_2 : List (MethodName × Nat) := [(⟨"KinProver$Ranges", "apply", "(I)V"⟩, 12), (⟨"KinProver$Ranges", "raise", "(IIII)V"⟩, 12), (⟨"KinProver$Ranges", "change", "(IIII)V"⟩, 12), (⟨"KinProver$Ranges", "lower", "(IIII)V"⟩, 12), (⟨"KinProver$World", "isBornAhead", "(II)Z"⟩, 7), (⟨"KinProver", "isEnd", "(III)Z"⟩, 14), (⟨"KinProver$Ranges", "follow", "(II)I"⟩, 12), (⟨"KinProver", "settleCulprits", "()V"⟩, 14), (⟨"KinProver", "arePersons", "(II)Z"⟩, 14), (⟨"KinProver", "workOneMore", "()V"⟩, 14), (⟨"KinProver", "seekWays", "(II)V"⟩, 14), (⟨"KinProver$Ways", "isNearer", "(I)Z"⟩, 5), (⟨"KinProver$Ways", "descend", "(LKinProver$Folk;[II)I"⟩, 5), (⟨"KinProverModel", "works", "()V"⟩, 31), (⟨"KinProverModel", "joins", "()V"⟩, 31), (⟨"KinProverModel", "isLive", "(II)Z"⟩, 31)]
theorem lw_r2 : ∀ q ∈ lw_privs_2, lw_okq q := List.forall_mem_cons.mpr ⟨lw_p16, List.forall_mem_cons.mpr ⟨lw_p17, List.forall_mem_cons.mpr ⟨lw_p18, List.forall_mem_cons.mpr ⟨lw_p19, List.forall_mem_cons.mpr ⟨lw_p20, List.forall_mem_cons.mpr ⟨lw_p21, List.forall_mem_cons.mpr ⟨lw_p22, List.forall_mem_cons.mpr ⟨lw_p23, List.forall_mem_cons.mpr ⟨lw_p24, List.forall_mem_cons.mpr ⟨lw_p25, List.forall_mem_cons.mpr ⟨lw_p26, List.forall_mem_cons.mpr ⟨lw_p27, List.forall_mem_cons.mpr ⟨lw_p28, List.forall_mem_cons.mpr ⟨lw_p29, List.forall_mem_cons.mpr ⟨lw_p30, List.forall_mem_cons.mpr ⟨lw_p31, fun _ h => absurd h List.not_mem_nil⟩⟩⟩⟩⟩⟩⟩⟩⟩⟩⟩⟩⟩⟩⟩⟩
theorem lw_p32 : lw_okq (⟨"KinProverModel", "told", "(II)I"⟩, 31) := ⟨⟨by decide +kernel, by decide +kernel⟩, List.mem_of_getElem? (i := 1009) (by decide +kernel), List.mem_of_getElem? (i := 1027) (by decide +kernel), List.mem_of_getElem? (i := 1028) (by decide +kernel)⟩
theorem lw_p33 : lw_okq (⟨"KinProverModel", "parents", "()V"⟩, 31) := ⟨⟨by decide +kernel, by decide +kernel⟩, List.mem_of_getElem? (i := 1009) (by decide +kernel), List.mem_of_getElem? (i := 1032) (by decide +kernel), List.mem_of_getElem? (i := 1033) (by decide +kernel)⟩
theorem lw_p34 : lw_okq (⟨"KinProverModel", "looks", "()V"⟩, 31) := ⟨⟨by decide +kernel, by decide +kernel⟩, List.mem_of_getElem? (i := 1009) (by decide +kernel), List.mem_of_getElem? (i := 1039) (by decide +kernel), List.mem_of_getElem? (i := 1040) (by decide +kernel)⟩
theorem lw_p35 : lw_okq (⟨"KinProverModel", "isOne", "(I)Z"⟩, 31) := ⟨⟨by decide +kernel, by decide +kernel⟩, List.mem_of_getElem? (i := 1009) (by decide +kernel), List.mem_of_getElem? (i := 1043) (by decide +kernel), List.mem_of_getElem? (i := 1044) (by decide +kernel)⟩
theorem lw_p36 : lw_okq (⟨"KinProverModel", "sexes", "(I)I"⟩, 31) := ⟨⟨by decide +kernel, by decide +kernel⟩, List.mem_of_getElem? (i := 1009) (by decide +kernel), List.mem_of_getElem? (i := 1047) (by decide +kernel), List.mem_of_getElem? (i := 1048) (by decide +kernel)⟩
theorem lw_p37 : lw_okq (⟨"KinProverModel", "sexOf", "(I)I"⟩, 31) := ⟨⟨by decide +kernel, by decide +kernel⟩, List.mem_of_getElem? (i := 1009) (by decide +kernel), List.mem_of_getElem? (i := 1051) (by decide +kernel), List.mem_of_getElem? (i := 1052) (by decide +kernel)⟩
theorem lw_p38 : lw_okq (⟨"KinProverModel", "clashes", "(II)V"⟩, 31) := ⟨⟨by decide +kernel, by decide +kernel⟩, List.mem_of_getElem? (i := 1009) (by decide +kernel), List.mem_of_getElem? (i := 1055) (by decide +kernel), List.mem_of_getElem? (i := 1056) (by decide +kernel)⟩
theorem lw_p39 : lw_okq (⟨"KinProverModel", "differ", "(IIII)V"⟩, 31) := ⟨⟨by decide +kernel, by decide +kernel⟩, List.mem_of_getElem? (i := 1009) (by decide +kernel), List.mem_of_getElem? (i := 1065) (by decide +kernel), List.mem_of_getElem? (i := 1066) (by decide +kernel)⟩
theorem lw_p40 : lw_okq (⟨"KinProverModel", "narrows", "(III)V"⟩, 31) := ⟨⟨by decide +kernel, by decide +kernel⟩, List.mem_of_getElem? (i := 1009) (by decide +kernel), List.mem_of_getElem? (i := 1069) (by decide +kernel), List.mem_of_getElem? (i := 1070) (by decide +kernel)⟩
theorem lw_p41 : lw_okq (⟨"KinProverModel", "applies", "(I)V"⟩, 31) := ⟨⟨by decide +kernel, by decide +kernel⟩, List.mem_of_getElem? (i := 1009) (by decide +kernel), List.mem_of_getElem? (i := 1073) (by decide +kernel), List.mem_of_getElem? (i := 1074) (by decide +kernel)⟩
theorem lw_p42 : lw_okq (⟨"KinProverModel", "isWithin", "(III)V"⟩, 31) := ⟨⟨by decide +kernel, by decide +kernel⟩, List.mem_of_getElem? (i := 1009) (by decide +kernel), List.mem_of_getElem? (i := 1077) (by decide +kernel), List.mem_of_getElem? (i := 1078) (by decide +kernel)⟩
theorem lw_p43 : lw_okq (⟨"KinProverModel", "weds", "(II)V"⟩, 31) := ⟨⟨by decide +kernel, by decide +kernel⟩, List.mem_of_getElem? (i := 1009) (by decide +kernel), List.mem_of_getElem? (i := 1084) (by decide +kernel), List.mem_of_getElem? (i := 1085) (by decide +kernel)⟩
theorem lw_p44 : lw_okq (⟨"KinProverModel", "lettersOnTape", "()I"⟩, 31) := ⟨⟨by decide +kernel, by decide +kernel⟩, List.mem_of_getElem? (i := 1009) (by decide +kernel), List.mem_of_getElem? (i := 1201) (by decide +kernel), List.mem_of_getElem? (i := 1202) (by decide +kernel)⟩
theorem lw_p45 : lw_okq (⟨"KinProverModel", "isPerson", "(I)Z"⟩, 31) := ⟨⟨by decide +kernel, by decide +kernel⟩, List.mem_of_getElem? (i := 1009) (by decide +kernel), List.mem_of_getElem? (i := 1209) (by decide +kernel), List.mem_of_getElem? (i := 1210) (by decide +kernel)⟩
theorem lw_p46 : lw_okq (⟨"KinProverModel", "reads", "()Z"⟩, 31) := ⟨⟨by decide +kernel, by decide +kernel⟩, List.mem_of_getElem? (i := 1009) (by decide +kernel), List.mem_of_getElem? (i := 1217) (by decide +kernel), List.mem_of_getElem? (i := 1218) (by decide +kernel)⟩
theorem lw_p47 : lw_okq (⟨"KinProverModel", "fails", "(I)V"⟩, 31) := ⟨⟨by decide +kernel, by decide +kernel⟩, List.mem_of_getElem? (i := 1009) (by decide +kernel), List.mem_of_getElem? (i := 1224) (by decide +kernel), List.mem_of_getElem? (i := 1225) (by decide +kernel)⟩
def lw_privs_3 : List (MethodName × Nat) := [(⟨"KinProverModel", "told", "(II)I"⟩, 31), (⟨"KinProverModel", "parents", "()V"⟩, 31), (⟨"KinProverModel", "looks", "()V"⟩, 31), (⟨"KinProverModel", "isOne", "(I)Z"⟩, 31), (⟨"KinProverModel", "sexes", "(I)I"⟩, 31), (⟨"KinProverModel", "sexOf", "(I)I"⟩, 31), (⟨"KinProverModel", "clashes", "(II)V"⟩, 31), (⟨"KinProverModel", "differ", "(IIII)V"⟩, 31), (⟨"KinProverModel", "narrows", "(III)V"⟩, 31), (⟨"KinProverModel", "applies", "(I)V"⟩, 31), (⟨"KinProverModel", "isWithin", "(III)V"⟩, 31), (⟨"KinProverModel", "weds", "(II)V"⟩, 31), (⟨"KinProverModel", "lettersOnTape", "()I"⟩, 31), (⟨"KinProverModel", "isPerson", "(I)Z"⟩, 31), (⟨"KinProverModel", "reads", "()Z"⟩, 31), (⟨"KinProverModel", "fails", "(I)V"⟩, 31)]
theorem lw_r3 : ∀ q ∈ lw_privs_3, lw_okq q := List.forall_mem_cons.mpr ⟨lw_p32, List.forall_mem_cons.mpr ⟨lw_p33, List.forall_mem_cons.mpr ⟨lw_p34, List.forall_mem_cons.mpr ⟨lw_p35, List.forall_mem_cons.mpr ⟨lw_p36, List.forall_mem_cons.mpr ⟨lw_p37, List.forall_mem_cons.mpr ⟨lw_p38, List.forall_mem_cons.mpr ⟨lw_p39, List.forall_mem_cons.mpr ⟨lw_p40, List.forall_mem_cons.mpr ⟨lw_p41, List.forall_mem_cons.mpr ⟨lw_p42, List.forall_mem_cons.mpr ⟨lw_p43, List.forall_mem_cons.mpr ⟨lw_p44, List.forall_mem_cons.mpr ⟨lw_p45, List.forall_mem_cons.mpr ⟨lw_p46, List.forall_mem_cons.mpr ⟨lw_p47, fun _ h => absurd h List.not_mem_nil⟩⟩⟩⟩⟩⟩⟩⟩⟩⟩⟩⟩⟩⟩⟩⟩
theorem lw_p48 : lw_okq (⟨"KinProverModel", "number", "(III)I"⟩, 31) := ⟨⟨by decide +kernel, by decide +kernel⟩, List.mem_of_getElem? (i := 1009) (by decide +kernel), List.mem_of_getElem? (i := 1228) (by decide +kernel), List.mem_of_getElem? (i := 1229) (by decide +kernel)⟩
theorem lw_p49 : lw_okq (⟨"KinProverModel", "comes", "(I)V"⟩, 31) := ⟨⟨by decide +kernel, by decide +kernel⟩, List.mem_of_getElem? (i := 1009) (by decide +kernel), List.mem_of_getElem? (i := 1238) (by decide +kernel), List.mem_of_getElem? (i := 1239) (by decide +kernel)⟩
theorem lw_p50 : lw_okq (⟨"KinProverModel", "isStatement", "(I)Z"⟩, 31) := ⟨⟨by decide +kernel, by decide +kernel⟩, List.mem_of_getElem? (i := 1009) (by decide +kernel), List.mem_of_getElem? (i := 1246) (by decide +kernel), List.mem_of_getElem? (i := 1247) (by decide +kernel)⟩
theorem lw_p51 : lw_okq (⟨"KinProverModel", "writes", "(I)V"⟩, 31) := ⟨⟨by decide +kernel, by decide +kernel⟩, List.mem_of_getElem? (i := 1009) (by decide +kernel), List.mem_of_getElem? (i := 1260) (by decide +kernel), List.mem_of_getElem? (i := 1261) (by decide +kernel)⟩
theorem lw_p52 : lw_okq (⟨"KinProverModel", "writesNumber", "(I)V"⟩, 31) := ⟨⟨by decide +kernel, by decide +kernel⟩, List.mem_of_getElem? (i := 1009) (by decide +kernel), List.mem_of_getElem? (i := 1264) (by decide +kernel), List.mem_of_getElem? (i := 1265) (by decide +kernel)⟩
theorem lw_p53 : lw_okq (⟨"KinProverModel", "lengthOf", "(I)I"⟩, 31) := ⟨⟨by decide +kernel, by decide +kernel⟩, List.mem_of_getElem? (i := 1009) (by decide +kernel), List.mem_of_getElem? (i := 1272) (by decide +kernel), List.mem_of_getElem? (i := 1273) (by decide +kernel)⟩
theorem lw_p54 : lw_okq (⟨"KinProverModel", "letterOf", "(II)I"⟩, 31) := ⟨⟨by decide +kernel, by decide +kernel⟩, List.mem_of_getElem? (i := 1009) (by decide +kernel), List.mem_of_getElem? (i := 1276) (by decide +kernel), List.mem_of_getElem? (i := 1277) (by decide +kernel)⟩
theorem lw_p55 : lw_okq (⟨"KinProverModel", "compares", "(II)I"⟩, 31) := ⟨⟨by decide +kernel, by decide +kernel⟩, List.mem_of_getElem? (i := 1009) (by decide +kernel), List.mem_of_getElem? (i := 1288) (by decide +kernel), List.mem_of_getElem? (i := 1289) (by decide +kernel)⟩
theorem lw_p56 : lw_okq (⟨"KinProverModel", "childrenOf", "(I)I"⟩, 31) := ⟨⟨by decide +kernel, by decide +kernel⟩, List.mem_of_getElem? (i := 1009) (by decide +kernel), List.mem_of_getElem? (i := 1299) (by decide +kernel), List.mem_of_getElem? (i := 1300) (by decide +kernel)⟩
theorem lw_p57 : lw_okq (⟨"KinProverModel", "marriages", "(I)I"⟩, 31) := ⟨⟨by decide +kernel, by decide +kernel⟩, List.mem_of_getElem? (i := 1009) (by decide +kernel), List.mem_of_getElem? (i := 1303) (by decide +kernel), List.mem_of_getElem? (i := 1304) (by decide +kernel)⟩
theorem lw_p58 : lw_okq (⟨"KinProverModel", "ages", "()Z"⟩, 31) := ⟨⟨by decide +kernel, by decide +kernel⟩, List.mem_of_getElem? (i := 1009) (by decide +kernel), List.mem_of_getElem? (i := 1307) (by decide +kernel), List.mem_of_getElem? (i := 1308) (by decide +kernel)⟩
theorem lw_p59 : lw_okq (⟨"KinProverModel", "isEnd", "(III)Z"⟩, 31) := ⟨⟨by decide +kernel, by decide +kernel⟩, List.mem_of_getElem? (i := 1009) (by decide +kernel), List.mem_of_getElem? (i := 1316) (by decide +kernel), List.mem_of_getElem? (i := 1317) (by decide +kernel)⟩
theorem lw_p60 : lw_okq (⟨"KinProverModel", "endOf", "(III)I"⟩, 31) := ⟨⟨by decide +kernel, by decide +kernel⟩, List.mem_of_getElem? (i := 1009) (by decide +kernel), List.mem_of_getElem? (i := 1320) (by decide +kernel), List.mem_of_getElem? (i := 1321) (by decide +kernel)⟩
theorem lw_p61 : lw_okq (⟨"KinProverModel", "rests", "(III)I"⟩, 31) := ⟨⟨by decide +kernel, by decide +kernel⟩, List.mem_of_getElem? (i := 1009) (by decide +kernel), List.mem_of_getElem? (i := 1335) (by decide +kernel), List.mem_of_getElem? (i := 1336) (by decide +kernel)⟩
theorem lw_p62 : lw_okq (⟨"KinProverModel", "widthOf", "(II)I"⟩, 31) := ⟨⟨by decide +kernel, by decide +kernel⟩, List.mem_of_getElem? (i := 1009) (by decide +kernel), List.mem_of_getElem? (i := 1366) (by decide +kernel), List.mem_of_getElem? (i := 1367) (by decide +kernel)⟩
theorem lw_p63 : lw_okq (⟨"KinProverModel", "areTwo", "(II)Z"⟩, 31) := ⟨⟨by decide +kernel, by decide +kernel⟩, List.mem_of_getElem? (i := 1009) (by decide +kernel), List.mem_of_getElem? (i := 1378) (by decide +kernel), List.mem_of_getElem? (i := 1379) (by decide +kernel)⟩
def lw_privs_4 : List (MethodName × Nat) := [(⟨"KinProverModel", "number", "(III)I"⟩, 31), (⟨"KinProverModel", "comes", "(I)V"⟩, 31), (⟨"KinProverModel", "isStatement", "(I)Z"⟩, 31), (⟨"KinProverModel", "writes", "(I)V"⟩, 31), (⟨"KinProverModel", "writesNumber", "(I)V"⟩, 31), (⟨"KinProverModel", "lengthOf", "(I)I"⟩, 31), (⟨"KinProverModel", "letterOf", "(II)I"⟩, 31), (⟨"KinProverModel", "compares", "(II)I"⟩, 31), (⟨"KinProverModel", "childrenOf", "(I)I"⟩, 31), (⟨"KinProverModel", "marriages", "(I)I"⟩, 31), (⟨"KinProverModel", "ages", "()Z"⟩, 31), (⟨"KinProverModel", "isEnd", "(III)Z"⟩, 31), (⟨"KinProverModel", "endOf", "(III)I"⟩, 31), (⟨"KinProverModel", "rests", "(III)I"⟩, 31), (⟨"KinProverModel", "widthOf", "(II)I"⟩, 31), (⟨"KinProverModel", "areTwo", "(II)Z"⟩, 31)]
theorem lw_r4 : ∀ q ∈ lw_privs_4, lw_okq q := List.forall_mem_cons.mpr ⟨lw_p48, List.forall_mem_cons.mpr ⟨lw_p49, List.forall_mem_cons.mpr ⟨lw_p50, List.forall_mem_cons.mpr ⟨lw_p51, List.forall_mem_cons.mpr ⟨lw_p52, List.forall_mem_cons.mpr ⟨lw_p53, List.forall_mem_cons.mpr ⟨lw_p54, List.forall_mem_cons.mpr ⟨lw_p55, List.forall_mem_cons.mpr ⟨lw_p56, List.forall_mem_cons.mpr ⟨lw_p57, List.forall_mem_cons.mpr ⟨lw_p58, List.forall_mem_cons.mpr ⟨lw_p59, List.forall_mem_cons.mpr ⟨lw_p60, List.forall_mem_cons.mpr ⟨lw_p61, List.forall_mem_cons.mpr ⟨lw_p62, List.forall_mem_cons.mpr ⟨lw_p63, fun _ h => absurd h List.not_mem_nil⟩⟩⟩⟩⟩⟩⟩⟩⟩⟩⟩⟩⟩⟩⟩⟩
theorem lw_p64 : lw_okq (⟨"KinProverModel", "meets", "(II)Z"⟩, 31) := ⟨⟨by decide +kernel, by decide +kernel⟩, List.mem_of_getElem? (i := 1009) (by decide +kernel), List.mem_of_getElem? (i := 1382) (by decide +kernel), List.mem_of_getElem? (i := 1383) (by decide +kernel)⟩
theorem lw_p65 : lw_okq (⟨"KinProverModel", "steps", "(I[I)V"⟩, 31) := ⟨⟨by decide +kernel, by decide +kernel⟩, List.mem_of_getElem? (i := 1009) (by decide +kernel), List.mem_of_getElem? (i := 1386) (by decide +kernel), List.mem_of_getElem? (i := 1387) (by decide +kernel)⟩
theorem lw_p66 : lw_okq (⟨"KinProverModel", "isHalf", "()Z"⟩, 31) := ⟨⟨by decide +kernel, by decide +kernel⟩, List.mem_of_getElem? (i := 1009) (by decide +kernel), List.mem_of_getElem? (i := 1398) (by decide +kernel), List.mem_of_getElem? (i := 1399) (by decide +kernel)⟩
theorem lw_p67 : lw_okq (⟨"KinProverModel", "under", "(I[I)I"⟩, 31) := ⟨⟨by decide +kernel, by decide +kernel⟩, List.mem_of_getElem? (i := 1009) (by decide +kernel), List.mem_of_getElem? (i := 1402) (by decide +kernel), List.mem_of_getElem? (i := 1403) (by decide +kernel)⟩
theorem lw_p68 : lw_okq (⟨"KinProverModel", "marriedTo", "(I)I"⟩, 31) := ⟨⟨by decide +kernel, by decide +kernel⟩, List.mem_of_getElem? (i := 1009) (by decide +kernel), List.mem_of_getElem? (i := 1410) (by decide +kernel), List.mem_of_getElem? (i := 1411) (by decide +kernel)⟩
theorem lw_p69 : lw_okq (⟨"KinProverModel", "writesBy", "(ILjava/lang/String;Ljava/lang/String;Ljava/lang/String;)V"⟩, 31) := ⟨⟨by decide +kernel, by decide +kernel⟩, List.mem_of_getElem? (i := 1009) (by decide +kernel), List.mem_of_getElem? (i := 1417) (by decide +kernel), List.mem_of_getElem? (i := 1418) (by decide +kernel)⟩
theorem lw_p70 : lw_okq (⟨"KinProverModel", "writes", "(Ljava/lang/String;)V"⟩, 31) := ⟨⟨by decide +kernel, by decide +kernel⟩, List.mem_of_getElem? (i := 1009) (by decide +kernel), List.mem_of_getElem? (i := 1421) (by decide +kernel), List.mem_of_getElem? (i := 1422) (by decide +kernel)⟩
theorem lw_p71 : lw_okq (⟨"KinProverModel", "grands", "(I)V"⟩, 31) := ⟨⟨by decide +kernel, by decide +kernel⟩, List.mem_of_getElem? (i := 1009) (by decide +kernel), List.mem_of_getElem? (i := 1429) (by decide +kernel), List.mem_of_getElem? (i := 1430) (by decide +kernel)⟩
theorem lw_p72 : lw_okq (⟨"KinProverModel", "orders", "()I"⟩, 31) := ⟨⟨by decide +kernel, by decide +kernel⟩, List.mem_of_getElem? (i := 1009) (by decide +kernel), List.mem_of_getElem? (i := 1472) (by decide +kernel), List.mem_of_getElem? (i := 1473) (by decide +kernel)⟩
theorem lw_p73 : lw_okq (⟨"KinProverModel", "isBornAhead", "(II)Z"⟩, 31) := ⟨⟨by decide +kernel, by decide +kernel⟩, List.mem_of_getElem? (i := 1009) (by decide +kernel), List.mem_of_getElem? (i := 1476) (by decide +kernel), List.mem_of_getElem? (i := 1477) (by decide +kernel)⟩
def lw_privs_5 : List (MethodName × Nat) := [(⟨"KinProverModel", "meets", "(II)Z"⟩, 31), (⟨"KinProverModel", "steps", "(I[I)V"⟩, 31), (⟨"KinProverModel", "isHalf", "()Z"⟩, 31), (⟨"KinProverModel", "under", "(I[I)I"⟩, 31), (⟨"KinProverModel", "marriedTo", "(I)I"⟩, 31), (⟨"KinProverModel", "writesBy", "(ILjava/lang/String;Ljava/lang/String;Ljava/lang/String;)V"⟩, 31), (⟨"KinProverModel", "writes", "(Ljava/lang/String;)V"⟩, 31), (⟨"KinProverModel", "grands", "(I)V"⟩, 31), (⟨"KinProverModel", "orders", "()I"⟩, 31), (⟨"KinProverModel", "isBornAhead", "(II)Z"⟩, 31)]
theorem lw_r5 : ∀ q ∈ lw_privs_5, lw_okq q := List.forall_mem_cons.mpr ⟨lw_p64, List.forall_mem_cons.mpr ⟨lw_p65, List.forall_mem_cons.mpr ⟨lw_p66, List.forall_mem_cons.mpr ⟨lw_p67, List.forall_mem_cons.mpr ⟨lw_p68, List.forall_mem_cons.mpr ⟨lw_p69, List.forall_mem_cons.mpr ⟨lw_p70, List.forall_mem_cons.mpr ⟨lw_p71, List.forall_mem_cons.mpr ⟨lw_p72, List.forall_mem_cons.mpr ⟨lw_p73, fun _ h => absurd h List.not_mem_nil⟩⟩⟩⟩⟩⟩⟩⟩⟩⟩
def lw_privs : List (MethodName × Nat) := lw_privs_1 ++ (lw_privs_2 ++ (lw_privs_3 ++ (lw_privs_4 ++ (lw_privs_5))))
def lw_tbl : List Cond := k2_sels lw_privs ++ tables_1
theorem lw_privs_ok : ∀ q ∈ lw_privs, lw_okq q := by
  show ∀ q ∈ lw_privs_1 ++ (lw_privs_2 ++ (lw_privs_3 ++ (lw_privs_4 ++ (lw_privs_5)))), lw_okq q
  exact List.forall_mem_append.mpr ⟨lw_r1, List.forall_mem_append.mpr ⟨lw_r2, List.forall_mem_append.mpr ⟨lw_r3, List.forall_mem_append.mpr ⟨lw_r4, lw_r5⟩⟩⟩⟩
def RX0 : String := "KinProver$Book"
def TX0 : u_T := fun k => match k with
  | 0 => ("KinProver$Book", "persons", "I", false)
  | 1 => ("KinProver$Book", "statements", "I", false)
  | 2 => ("KinProver$Book", "names", "[[B", true)
  | 3 => ("KinProver$Book", "nameLengths", "[I", true)
  | 4 => ("KinProver$Book", "sexes", "[I", true)
  | 5 => ("KinProver$Book", "sorts", "[I", true)
  | 6 => ("KinProver$Book", "firsts", "[I", true)
  | 7 => ("KinProver$Book", "seconds", "[I", true)
  | 8 => ("KinProver$Book", "lows", "[I", true)
  | 9 => ("KinProver$Book", "highs", "[I", true)
  | _ => ("KinProver$Book", "lives", "[I", true)
def tyX0 : Nat → FieldType := fun k => match k with
  | 0 => .int
  | 1 => .int
  | 2 => .array (.array .byte)
  | 3 => .array .int
  | 4 => .array .int
  | 5 => .array .int
  | 6 => .array .int
  | 7 => .array .int
  | 8 => .array .int
  | 9 => .array .int
  | _ => .array .int
theorem nmX0 : ∀ a, a < 11 → ∀ b, b < 11 → a ≠ b → (TX0 a).2.1 ≠ (TX0 b).2.1 := by decide +kernel
theorem tyX0_ok : ∀ k, k < 11 → parseFieldDescriptor (TX0 k).2.2.1 = some (tyX0 k) := by decide +kernel
abbrev cX0_init : ByteArray := prog_2_method_1_code
def yX0_init : MethodName := ⟨RX0, "<init>", "()V"⟩
abbrev cX0_isPerson : ByteArray := prog_2_method_2_code
def yX0_isPerson : MethodName := ⟨RX0, "isPerson", "(I)Z"⟩
abbrev cX0_isStatement : ByteArray := prog_2_method_3_code
def yX0_isStatement : MethodName := ⟨RX0, "isStatement", "(I)Z"⟩
abbrev cX0_addPerson : ByteArray := prog_2_method_4_code
def yX0_addPerson : MethodName := ⟨RX0, "addPerson", "(LKinProver$Text;I)V"⟩
abbrev cX0_write : ByteArray := prog_2_method_5_code
def yX0_write : MethodName := ⟨RX0, "write", "(ILKinProver$Reader;I)V"⟩
abbrev cX0_copyFrom : ByteArray := prog_2_method_6_code
def yX0_copyFrom : MethodName := ⟨RX0, "copyFrom", "(LKinProver$Book;)V"⟩
abbrev cX0_spellInto : ByteArray := prog_2_method_7_code
def yX0_spellInto : MethodName := ⟨RX0, "spellInto", "(LKinProver$Text;I)V"⟩
abbrev cX0_spellNumber : ByteArray := prog_2_method_8_code
def yX0_spellNumber : MethodName := ⟨RX0, "spellNumber", "(LKinProver$Text;I)V"⟩
abbrev cX0_findNamed : ByteArray := prog_2_method_9_code
def yX0_findNamed : MethodName := ⟨RX0, "findNamed", "(LKinProver$Text;I)I"⟩
abbrev cX0_isNamed : ByteArray := prog_2_method_10_code
def yX0_isNamed : MethodName := ⟨RX0, "isNamed", "(ILKinProver$Text;)Z"⟩
abbrev cX0_compareNames : ByteArray := prog_2_method_11_code
def yX0_compareNames : MethodName := ⟨RX0, "compareNames", "(II)I"⟩
abbrev cX0_placeByName : ByteArray := prog_2_method_12_code
def yX0_placeByName : MethodName := ⟨RX0, "placeByName", "(I)I"⟩
abbrev cX0_unlikeNames : ByteArray := prog_2_method_13_code
def yX0_unlikeNames : MethodName := ⟨RX0, "unlikeNames", "()I"⟩
def RX1 : String := "KinProver$Folk"
def TX1 : u_T := fun k => match k with
  | 0 => ("KinProver$Folk", "count", "I", false)
  | 1 => ("KinProver$Folk", "all", "I", false)
  | 2 => ("KinProver$Folk", "group", "[I", true)
  | 3 => ("KinProver$Folk", "sizes", "[I", true)
  | 4 => ("KinProver$Folk", "sexes", "[I", true)
  | 5 => ("KinProver$Folk", "mothers", "[I", true)
  | 6 => ("KinProver$Folk", "fathers", "[I", true)
  | 7 => ("KinProver$Folk", "parents", "[I", true)
  | 8 => ("KinProver$Folk", "above", "[I", true)
  | 9 => ("KinProver$Folk", "spouses", "[I", true)
  | 10 => ("KinProver$Folk", "marriages", "[I", true)
  | 11 => ("KinProver$Folk", "generations", "[I", true)
  | _ => ("KinProver$Folk", "ring", "Z", false)
def tyX1 : Nat → FieldType := fun k => match k with
  | 0 => .int
  | 1 => .int
  | 2 => .array .int
  | 3 => .array .int
  | 4 => .array .int
  | 5 => .array .int
  | 6 => .array .int
  | 7 => .array .int
  | 8 => .array .int
  | 9 => .array .int
  | 10 => .array .int
  | 11 => .array .int
  | _ => .boolean
theorem nmX1 : ∀ a, a < 13 → ∀ b, b < 13 → a ≠ b → (TX1 a).2.1 ≠ (TX1 b).2.1 := by decide +kernel
theorem tyX1_ok : ∀ k, k < 13 → parseFieldDescriptor (TX1 k).2.2.1 = some (tyX1 k) := by decide +kernel
abbrev cX1_init : ByteArray := prog_3_method_1_code
def yX1_init : MethodName := ⟨RX1, "<init>", "()V"⟩
abbrev cX1_has : ByteArray := prog_3_method_2_code
def yX1_has : MethodName := ⟨RX1, "has", "(II)Z"⟩
abbrev cX1_least : ByteArray := prog_3_method_3_code
def yX1_least : MethodName := ⟨RX1, "least", "(I)I"⟩
abbrev cX1_gather : ByteArray := prog_3_method_4_code
def yX1_gather : MethodName := ⟨RX1, "gather", "(LKinProver$Book;[II)V"⟩
abbrev cX1_wipe : ByteArray := prog_3_method_5_code
def yX1_wipe : MethodName := ⟨RX1, "wipe", "()V"⟩
abbrev cX1_joinSames : ByteArray := prog_3_method_6_code
def yX1_joinSames : MethodName := ⟨RX1, "joinSames", "(LKinProver$Book;[II)V"⟩
abbrev cX1_rename : ByteArray := prog_3_method_7_code
def yX1_rename : MethodName := ⟨RX1, "rename", "(III)V"⟩
abbrev cX1_hear : ByteArray := prog_3_method_8_code
def yX1_hear : MethodName := ⟨RX1, "hear", "(LKinProver$Book;I)V"⟩
abbrev cX1_climb : ByteArray := prog_3_method_9_code
def yX1_climb : MethodName := ⟨RX1, "climb", "()V"⟩
abbrev cX1_generationOver : ByteArray := prog_3_method_10_code
def yX1_generationOver : MethodName := ⟨RX1, "generationOver", "(I)I"⟩
abbrev cX1_leastRing : ByteArray := prog_3_method_11_code
def yX1_leastRing : MethodName := ⟨RX1, "leastRing", "()I"⟩
abbrev cX1_leastOfBothSexes : ByteArray := prog_3_method_12_code
def yX1_leastOfBothSexes : MethodName := ⟨RX1, "leastOfBothSexes", "()I"⟩
abbrev cX1_leastOfUnlikeParents : ByteArray := prog_3_method_13_code
def yX1_leastOfUnlikeParents : MethodName := ⟨RX1, "leastOfUnlikeParents", "()I"⟩
abbrev cX1_tell : ByteArray := prog_3_method_14_code
def yX1_tell : MethodName := ⟨RX1, "tell", "(II)I"⟩
abbrev cX1_children : ByteArray := prog_3_method_15_code
def yX1_children : MethodName := ⟨RX1, "children", "(I)I"⟩
abbrev cX1_below : ByteArray := prog_3_method_16_code
def yX1_below : MethodName := ⟨RX1, "below", "(I)I"⟩
abbrev cX1_holders : ByteArray := prog_3_method_17_code
def yX1_holders : MethodName := ⟨RX1, "holders", "([II)I"⟩
abbrev cX1_siblings : ByteArray := prog_3_method_18_code
def yX1_siblings : MethodName := ⟨RX1, "siblings", "(I)I"⟩
abbrev cX1_areMarried : ByteArray := prog_3_method_19_code
def yX1_areMarried : MethodName := ⟨RX1, "areMarried", "(II)Z"⟩
abbrev cX1_haveAlikeParents : ByteArray := prog_3_method_20_code
def yX1_haveAlikeParents : MethodName := ⟨RX1, "haveAlikeParents", "(II)Z"⟩
abbrev cX1_greatestGeneration : ByteArray := prog_3_method_21_code
def yX1_greatestGeneration : MethodName := ⟨RX1, "greatestGeneration", "()I"⟩
def RX2 : String := "KinProver$Lists"
def TX2 : u_T := fun k => match k with
  | 0 => ("KinProver$Lists", "rows", "[[I", true)
  | _ => ("KinProver$Lists", "sizes", "[I", true)
def tyX2 : Nat → FieldType := fun k => match k with
  | 0 => .array (.array .int)
  | _ => .array .int
theorem nmX2 : ∀ a, a < 2 → ∀ b, b < 2 → a ≠ b → (TX2 a).2.1 ≠ (TX2 b).2.1 := by decide +kernel
theorem tyX2_ok : ∀ k, k < 2 → parseFieldDescriptor (TX2 k).2.2.1 = some (tyX2 k) := by decide +kernel
abbrev cX2_init : ByteArray := prog_4_method_1_code
def yX2_init : MethodName := ⟨RX2, "<init>", "()V"⟩
abbrev cX2_isList : ByteArray := prog_4_method_2_code
def yX2_isList : MethodName := ⟨RX2, "isList", "(I)Z"⟩
abbrev cX2_begin : ByteArray := prog_4_method_3_code
def yX2_begin : MethodName := ⟨RX2, "begin", "(II)V"⟩
abbrev cX2_hasPlace : ByteArray := prog_4_method_4_code
def yX2_hasPlace : MethodName := ⟨RX2, "hasPlace", "(III)Z"⟩
def RX3 : String := "KinProver$Ranges"
def TX3 : u_T := fun k => match k with
  | 0 => ("KinProver$Ranges", "years", "[I", true)
  | 1 => ("KinProver$Ranges", "restRules", "[I", true)
  | 2 => ("KinProver$Ranges", "restEnds", "[I", true)
  | 3 => ("KinProver$Ranges", "xs", "[I", true)
  | 4 => ("KinProver$Ranges", "ys", "[I", true)
  | 5 => ("KinProver$Ranges", "froms", "[I", true)
  | 6 => ("KinProver$Ranges", "tos", "[I", true)
  | 7 => ("KinProver$Ranges", "rules", "[I", true)
  | 8 => ("KinProver$Ranges", "count", "I", false)
  | 9 => ("KinProver$Ranges", "rounds", "I", false)
  | 10 => ("KinProver$Ranges", "empty", "I", false)
  | _ => ("KinProver$Ranges", "changed", "Z", false)
def tyX3 : Nat → FieldType := fun k => match k with
  | 0 => .array .int
  | 1 => .array .int
  | 2 => .array .int
  | 3 => .array .int
  | 4 => .array .int
  | 5 => .array .int
  | 6 => .array .int
  | 7 => .array .int
  | 8 => .int
  | 9 => .int
  | 10 => .int
  | _ => .boolean
theorem nmX3 : ∀ a, a < 12 → ∀ b, b < 12 → a ≠ b → (TX3 a).2.1 ≠ (TX3 b).2.1 := by decide +kernel
theorem tyX3_ok : ∀ k, k < 12 → parseFieldDescriptor (TX3 k).2.2.1 = some (tyX3 k) := by decide +kernel
abbrev cX3_init : ByteArray := prog_5_method_1_code
def yX3_init : MethodName := ⟨RX3, "<init>", "()V"⟩
abbrev cX3_wipe : ByteArray := prog_5_method_2_code
def yX3_wipe : MethodName := ⟨RX3, "wipe", "()V"⟩
abbrev cX3_takeLife : ByteArray := prog_5_method_3_code
def yX3_takeLife : MethodName := ⟨RX3, "takeLife", "(I)V"⟩
abbrev cX3_takeStatement : ByteArray := prog_5_method_4_code
def yX3_takeStatement : MethodName := ⟨RX3, "takeStatement", "(LKinProver$Book;LKinProver$Folk;I)V"⟩
abbrev cX3_addMarriedOne : ByteArray := prog_5_method_5_code
def yX3_addMarriedOne : MethodName := ⟨RX3, "addMarriedOne", "(II)V"⟩
abbrev cX3_born : ByteArray := prog_5_method_6_code
def yX3_born : MethodName := ⟨RX3, "born", "(I)I"⟩
abbrev cX3_died : ByteArray := prog_5_method_7_code
def yX3_died : MethodName := ⟨RX3, "died", "(I)I"⟩
abbrev cX3_addIn : ByteArray := prog_5_method_8_code
def yX3_addIn : MethodName := ⟨RX3, "addIn", "(IIII)V"⟩
abbrev cX3_addLess : ByteArray := prog_5_method_9_code
def yX3_addLess : MethodName := ⟨RX3, "addLess", "(IIIII)V"⟩
abbrev cX3_narrow : ByteArray := prog_5_method_10_code
def yX3_narrow : MethodName := ⟨RX3, "narrow", "(I)Z"⟩
abbrev cX3_apply : ByteArray := prog_5_method_11_code
def yX3_apply : MethodName := ⟨RX3, "apply", "(I)V"⟩
abbrev cX3_raise : ByteArray := prog_5_method_12_code
def yX3_raise : MethodName := ⟨RX3, "raise", "(IIII)V"⟩
abbrev cX3_lower : ByteArray := prog_5_method_13_code
def yX3_lower : MethodName := ⟨RX3, "lower", "(IIII)V"⟩
abbrev cX3_change : ByteArray := prog_5_method_14_code
def yX3_change : MethodName := ⟨RX3, "change", "(IIII)V"⟩
abbrev cX3_follow : ByteArray := prog_5_method_15_code
def yX3_follow : MethodName := ⟨RX3, "follow", "(II)I"⟩
abbrev cX3_tellRest : ByteArray := prog_5_method_16_code
def yX3_tellRest : MethodName := ⟨RX3, "tellRest", "(III)I"⟩
abbrev cX3_tellRange : ByteArray := prog_5_method_17_code
def yX3_tellRange : MethodName := ⟨RX3, "tellRange", "(I)I"⟩
abbrev cX3_proveInto : ByteArray := prog_5_method_18_code
def yX3_proveInto : MethodName := ⟨RX3, "proveInto", "(LKinProver$Text;I)V"⟩
def RX4 : String := "KinProver$Reader"
def TX4 : u_T := fun k => match k with
  | 0 => ("KinProver$Reader", "sort", "I", false)
  | 1 => ("KinProver$Reader", "first", "I", false)
  | 2 => ("KinProver$Reader", "second", "I", false)
  | 3 => ("KinProver$Reader", "low", "I", false)
  | 4 => ("KinProver$Reader", "high", "I", false)
  | 5 => ("KinProver$Reader", "fault", "I", false)
  | 6 => ("KinProver$Reader", "place", "I", false)
  | _ => ("KinProver$Reader", "begin", "I", false)
def tyX4 : Nat → FieldType := fun k => match k with
  | 0 => .int
  | 1 => .int
  | 2 => .int
  | 3 => .int
  | 4 => .int
  | 5 => .int
  | 6 => .int
  | _ => .int
theorem nmX4 : ∀ a, a < 8 → ∀ b, b < 8 → a ≠ b → (TX4 a).2.1 ≠ (TX4 b).2.1 := by decide +kernel
theorem tyX4_ok : ∀ k, k < 8 → parseFieldDescriptor (TX4 k).2.2.1 = some (tyX4 k) := by decide +kernel
abbrev cX4_init : ByteArray := prog_6_method_1_code
def yX4_init : MethodName := ⟨RX4, "<init>", "()V"⟩
abbrev cX4_tellsTwo : ByteArray := prog_6_method_2_code
def yX4_tellsTwo : MethodName := ⟨RX4, "tellsTwo", "(I)Z"⟩
abbrev cX4_tellsLow : ByteArray := prog_6_method_3_code
def yX4_tellsLow : MethodName := ⟨RX4, "tellsLow", "(I)Z"⟩
abbrev cX4_tellsHigh : ByteArray := prog_6_method_4_code
def yX4_tellsHigh : MethodName := ⟨RX4, "tellsHigh", "(I)Z"⟩
abbrev cX4_letterOf : ByteArray := prog_6_method_5_code
def yX4_letterOf : MethodName := ⟨RX4, "letterOf", "(I)I"⟩
abbrev cX4_makeSame : ByteArray := prog_6_method_6_code
def yX4_makeSame : MethodName := ⟨RX4, "makeSame", "(II)V"⟩
abbrev cX4_reads : ByteArray := prog_6_method_7_code
def yX4_reads : MethodName := ⟨RX4, "reads", "(LKinProver$Text;I)Z"⟩
abbrev cX4_sortOf : ByteArray := prog_6_method_8_code
def yX4_sortOf : MethodName := ⟨RX4, "sortOf", "(I)I"⟩
abbrev cX4_takeNumber : ByteArray := prog_6_method_9_code
def yX4_takeNumber : MethodName := ⟨RX4, "takeNumber", "(LKinProver$Text;II)I"⟩
def RX5 : String := "KinProver$Text"
def TX5 : u_T := fun k => match k with
  | 0 => ("KinProver$Text", "bytes", "[B", true)
  | _ => ("KinProver$Text", "length", "I", false)
def tyX5 : Nat → FieldType := fun k => match k with
  | 0 => .array .byte
  | _ => .int
theorem nmX5 : ∀ a, a < 2 → ∀ b, b < 2 → a ≠ b → (TX5 a).2.1 ≠ (TX5 b).2.1 := by decide +kernel
theorem tyX5_ok : ∀ k, k < 2 → parseFieldDescriptor (TX5 k).2.2.1 = some (tyX5 k) := by decide +kernel
abbrev cX5_init : ByteArray := prog_7_method_1_code
def yX5_init : MethodName := ⟨RX5, "<init>", "(I)V"⟩
abbrev cX5_wipe : ByteArray := prog_7_method_2_code
def yX5_wipe : MethodName := ⟨RX5, "wipe", "()V"⟩
abbrev cX5_put : ByteArray := prog_7_method_3_code
def yX5_put : MethodName := ⟨RX5, "put", "(I)V"⟩
abbrev cX5_putAll : ByteArray := prog_7_method_4_code
def yX5_putAll : MethodName := ⟨RX5, "putAll", "(Ljava/lang/String;)V"⟩
abbrev cX5_putNumber : ByteArray := prog_7_method_5_code
def yX5_putNumber : MethodName := ⟨RX5, "putNumber", "(I)V"⟩
abbrev cX5_at : ByteArray := prog_7_method_6_code
def yX5_at : MethodName := ⟨RX5, "at", "(I)I"⟩
abbrev cX5_isFigure : ByteArray := prog_7_method_7_code
def yX5_isFigure : MethodName := ⟨RX5, "isFigure", "(I)Z"⟩
abbrev cX5_nameFault : ByteArray := prog_7_method_8_code
def yX5_nameFault : MethodName := ⟨RX5, "nameFault", "()I"⟩
def RX6 : String := "KinProver$Titles"
def TX6 : u_T := fun k => match k with
  | _ => ("", "", "", false)
def tyX6 : Nat → FieldType := fun k => match k with
  | _ => .int
theorem nmX6 : ∀ a, a < 0 → ∀ b, b < 0 → a ≠ b → (TX6 a).2.1 ≠ (TX6 b).2.1 := by decide +kernel
theorem tyX6_ok : ∀ k, k < 0 → parseFieldDescriptor (TX6 k).2.2.1 = some (tyX6 k) := by decide +kernel
abbrev cX6_putKin : ByteArray := prog_8_method_2_code
def yX6_putKin : MethodName := ⟨RX6, "putKin", "(LKinProver$Text;LKinProver$Ways;ZI)V"⟩
abbrev cX6_putBySex : ByteArray := prog_8_method_3_code
def yX6_putBySex : MethodName := ⟨RX6, "putBySex", "(LKinProver$Text;ILjava/lang/String;Ljava/lang/String;Ljava/lang/String;)V"⟩
abbrev cX6_putGrand : ByteArray := prog_8_method_4_code
def yX6_putGrand : MethodName := ⟨RX6, "putGrand", "(LKinProver$Text;I)V"⟩
abbrev cX6_putCousin : ByteArray := prog_8_method_5_code
def yX6_putCousin : MethodName := ⟨RX6, "putCousin", "(LKinProver$Text;II)V"⟩
def RX7 : String := "KinProver$Ways"
def TX7 : u_T := fun k => match k with
  | 0 => ("KinProver$Ways", "stepsA", "[I", true)
  | 1 => ("KinProver$Ways", "stepsB", "[I", true)
  | 2 => ("KinProver$Ways", "common", "I", false)
  | 3 => ("KinProver$Ways", "up", "I", false)
  | _ => ("KinProver$Ways", "down", "I", false)
def tyX7 : Nat → FieldType := fun k => match k with
  | 0 => .array .int
  | 1 => .array .int
  | 2 => .int
  | 3 => .int
  | _ => .int
theorem nmX7 : ∀ a, a < 5 → ∀ b, b < 5 → a ≠ b → (TX7 a).2.1 ≠ (TX7 b).2.1 := by decide +kernel
theorem tyX7_ok : ∀ k, k < 5 → parseFieldDescriptor (TX7 k).2.2.1 = some (tyX7 k) := by decide +kernel
abbrev cX7_init : ByteArray := prog_9_method_1_code
def yX7_init : MethodName := ⟨RX7, "<init>", "()V"⟩
abbrev cX7_seek : ByteArray := prog_9_method_2_code
def yX7_seek : MethodName := ⟨RX7, "seek", "(LKinProver$Folk;II)V"⟩
abbrev cX7_isNearer : ByteArray := prog_9_method_3_code
def yX7_isNearer : MethodName := ⟨RX7, "isNearer", "(I)Z"⟩
abbrev cX7_count : ByteArray := prog_9_method_4_code
def yX7_count : MethodName := ⟨RX7, "count", "(LKinProver$Folk;I[I)V"⟩
abbrev cX7_descend : ByteArray := prog_9_method_5_code
def yX7_descend : MethodName := ⟨RX7, "descend", "(LKinProver$Folk;[II)I"⟩
abbrev cX7_stepDown : ByteArray := prog_9_method_6_code
def yX7_stepDown : MethodName := ⟨RX7, "stepDown", "(LKinProver$Folk;[II)I"⟩
abbrev cX7_stop : ByteArray := prog_9_method_7_code
def yX7_stop : MethodName := ⟨RX7, "stop", "(LKinProver$Folk;I)I"⟩
abbrev cX7_isHalf : ByteArray := prog_9_method_8_code
def yX7_isHalf : MethodName := ⟨RX7, "isHalf", "(LKinProver$Folk;)Z"⟩
def RX8 : String := "KinProver$World"
def TX8 : u_T := fun k => match k with
  | 0 => ("KinProver$World", "said", "[I", true)
  | 1 => ("KinProver$World", "saidCount", "I", false)
  | 2 => ("KinProver$World", "folk", "LKinProver$Folk;", true)
  | 3 => ("KinProver$World", "ranges", "LKinProver$Ranges;", true)
  | 4 => ("KinProver$World", "clash", "I", false)
  | 5 => ("KinProver$World", "clashing", "I", false)
  | _ => ("KinProver$World", "order", "[I", true)
def tyX8 : Nat → FieldType := fun k => match k with
  | 0 => .array .int
  | 1 => .int
  | 2 => .object "KinProver$Folk"
  | 3 => .object "KinProver$Ranges"
  | 4 => .int
  | 5 => .int
  | _ => .array .int
theorem nmX8 : ∀ a, a < 7 → ∀ b, b < 7 → a ≠ b → (TX8 a).2.1 ≠ (TX8 b).2.1 := by decide +kernel
theorem tyX8_ok : ∀ k, k < 7 → parseFieldDescriptor (TX8 k).2.2.1 = some (tyX8 k) := by decide +kernel
abbrev cX8_init : ByteArray := prog_10_method_1_code
def yX8_init : MethodName := ⟨RX8, "<init>", "()V"⟩
abbrev cX8_work : ByteArray := prog_10_method_2_code
def yX8_work : MethodName := ⟨RX8, "work", "(LKinProver$Book;III)V"⟩
abbrev cX8_note : ByteArray := prog_10_method_3_code
def yX8_note : MethodName := ⟨RX8, "note", "(II)V"⟩
abbrev cX8_takeRules : ByteArray := prog_10_method_4_code
def yX8_takeRules : MethodName := ⟨RX8, "takeRules", "(LKinProver$Book;)V"⟩
abbrev cX8_tellClashing : ByteArray := prog_10_method_5_code
def yX8_tellClashing : MethodName := ⟨RX8, "tellClashing", "()I"⟩
abbrev cX8_sortPeople : ByteArray := prog_10_method_6_code
def yX8_sortPeople : MethodName := ⟨RX8, "sortPeople", "()V"⟩
abbrev cX8_isBornAhead : ByteArray := prog_10_method_7_code
def yX8_isBornAhead : MethodName := ⟨RX8, "isBornAhead", "(II)Z"⟩
def RX9 : String := "KinProver"
def TX9 : u_T := fun k => match k with
  | 0 => ("KinProver", "book", "LKinProver$Book;", true)
  | 1 => ("KinProver", "kept", "LKinProver$Book;", true)
  | 2 => ("KinProver", "keeping", "Z", false)
  | 3 => ("KinProver", "tape", "LKinProver$Text;", true)
  | 4 => ("KinProver", "paper", "LKinProver$Text;", true)
  | 5 => ("KinProver", "reader", "LKinProver$Reader;", true)
  | 6 => ("KinProver", "now", "LKinProver$World;", true)
  | 7 => ("KinProver", "thought", "LKinProver$World;", true)
  | 8 => ("KinProver", "settled", "Z", false)
  | 9 => ("KinProver", "culprits", "[I", true)
  | 10 => ("KinProver", "culpritCount", "I", false)
  | 11 => ("KinProver", "culpritsSettled", "Z", false)
  | 12 => ("KinProver", "ways", "LKinProver$Ways;", true)
  | _ => ("KinProver", "lists", "LKinProver$Lists;", true)
def tyX9 : Nat → FieldType := fun k => match k with
  | 0 => .object "KinProver$Book"
  | 1 => .object "KinProver$Book"
  | 2 => .boolean
  | 3 => .object "KinProver$Text"
  | 4 => .object "KinProver$Text"
  | 5 => .object "KinProver$Reader"
  | 6 => .object "KinProver$World"
  | 7 => .object "KinProver$World"
  | 8 => .boolean
  | 9 => .array .int
  | 10 => .int
  | 11 => .boolean
  | 12 => .object "KinProver$Ways"
  | _ => .object "KinProver$Lists"
theorem nmX9 : ∀ a, a < 14 → ∀ b, b < 14 → a ≠ b → (TX9 a).2.1 ≠ (TX9 b).2.1 := by decide +kernel
theorem tyX9_ok : ∀ k, k < 14 → parseFieldDescriptor (TX9 k).2.2.1 = some (tyX9 k) := by decide +kernel
abbrev cX9_init : ByteArray := prog_1_method_1_code
def yX9_init : MethodName := ⟨RX9, "<init>", "()V"⟩
abbrev cX9_feed : ByteArray := prog_1_method_2_code
def yX9_feed : MethodName := ⟨RX9, "feed", "(I)I"⟩
abbrev cX9_clear : ByteArray := prog_1_method_3_code
def yX9_clear : MethodName := ⟨RX9, "clear", "()I"⟩
abbrev cX9_paper : ByteArray := prog_1_method_4_code
def yX9_paper : MethodName := ⟨RX9, "paper", "(I)I"⟩
abbrev cX9_person : ByteArray := prog_1_method_5_code
def yX9_person : MethodName := ⟨RX9, "person", "(I)I"⟩
abbrev cX9_sex : ByteArray := prog_1_method_6_code
def yX9_sex : MethodName := ⟨RX9, "sex", "(II)I"⟩
abbrev cX9_state : ByteArray := prog_1_method_7_code
def yX9_state : MethodName := ⟨RX9, "state", "(I)I"⟩
abbrev cX9_live : ByteArray := prog_1_method_8_code
def yX9_live : MethodName := ⟨RX9, "live", "(II)I"⟩
abbrev cX9_of : ByteArray := prog_1_method_9_code
def yX9_of : MethodName := ⟨RX9, "of", "(II)I"⟩
abbrev cX9_spell : ByteArray := prog_1_method_10_code
def yX9_spell : MethodName := ⟨RX9, "spell", "(I)I"⟩
abbrev cX9_name : ByteArray := prog_1_method_11_code
def yX9_name : MethodName := ⟨RX9, "name", "(II)I"⟩
abbrev cX9_find : ByteArray := prog_1_method_12_code
def yX9_find : MethodName := ⟨RX9, "find", "(I)I"⟩
abbrev cX9_byName : ByteArray := prog_1_method_13_code
def yX9_byName : MethodName := ⟨RX9, "byName", "(I)I"⟩
abbrev cX9_people : ByteArray := prog_1_method_14_code
def yX9_people : MethodName := ⟨RX9, "people", "(II)I"⟩
abbrev cX9_end : ByteArray := prog_1_method_15_code
def yX9_end : MethodName := ⟨RX9, "end", "(III)I"⟩
abbrev cX9_year : ByteArray := prog_1_method_16_code
def yX9_year : MethodName := ⟨RX9, "year", "(II)I"⟩
abbrev cX9_proof : ByteArray := prog_1_method_17_code
def yX9_proof : MethodName := ⟨RX9, "proof", "(IIIII)I"⟩
abbrev cX9_prove : ByteArray := prog_1_method_18_code
def yX9_prove : MethodName := ⟨RX9, "prove", "(III)I"⟩
abbrev cX9_clash : ByteArray := prog_1_method_19_code
def yX9_clash : MethodName := ⟨RX9, "clash", "(I)I"⟩
abbrev cX9_why : ByteArray := prog_1_method_20_code
def yX9_why : MethodName := ⟨RX9, "why", "(III)I"⟩
abbrev cX9_culprit : ByteArray := prog_1_method_21_code
def yX9_culprit : MethodName := ⟨RX9, "culprit", "(I)I"⟩
abbrev cX9_same : ByteArray := prog_1_method_22_code
def yX9_same : MethodName := ⟨RX9, "same", "(II)I"⟩
abbrev cX9_narrows : ByteArray := prog_1_method_23_code
def yX9_narrows : MethodName := ⟨RX9, "narrows", "(II)I"⟩
abbrev cX9_rounds : ByteArray := prog_1_method_24_code
def yX9_rounds : MethodName := ⟨RX9, "rounds", "()I"⟩
abbrev cX9_kin : ByteArray := prog_1_method_25_code
def yX9_kin : MethodName := ⟨RX9, "kin", "(II)I"⟩
abbrev cX9_common : ByteArray := prog_1_method_26_code
def yX9_common : MethodName := ⟨RX9, "common", "(II)I"⟩
abbrev cX9_half : ByteArray := prog_1_method_27_code
def yX9_half : MethodName := ⟨RX9, "half", "(II)I"⟩
abbrev cX9_title : ByteArray := prog_1_method_28_code
def yX9_title : MethodName := ⟨RX9, "title", "(II)I"⟩
abbrev cX9_path : ByteArray := prog_1_method_29_code
def yX9_path : MethodName := ⟨RX9, "path", "(III)I"⟩
abbrev cX9_relatives : ByteArray := prog_1_method_30_code
def yX9_relatives : MethodName := ⟨RX9, "relatives", "(II)J"⟩
abbrev cX9_ancestors : ByteArray := prog_1_method_31_code
def yX9_ancestors : MethodName := ⟨RX9, "ancestors", "(I)J"⟩
abbrev cX9_descendants : ByteArray := prog_1_method_32_code
def yX9_descendants : MethodName := ⟨RX9, "descendants", "(I)J"⟩
abbrev cX9_order : ByteArray := prog_1_method_33_code
def yX9_order : MethodName := ⟨RX9, "order", "(I)I"⟩
abbrev cX9_ahead : ByteArray := prog_1_method_34_code
def yX9_ahead : MethodName := ⟨RX9, "ahead", "(II)I"⟩
abbrev cX9_told : ByteArray := prog_1_method_35_code
def yX9_told : MethodName := ⟨RX9, "told", "(I)I"⟩
abbrev cX9_list : ByteArray := prog_1_method_36_code
def yX9_list : MethodName := ⟨RX9, "list", "(II)I"⟩
abbrev cX9_set : ByteArray := prog_1_method_37_code
def yX9_set : MethodName := ⟨RX9, "set", "(III)I"⟩
abbrev cX9_get : ByteArray := prog_1_method_38_code
def yX9_get : MethodName := ⟨RX9, "get", "(II)J"⟩
abbrev cX9_lay : ByteArray := prog_1_method_39_code
def yX9_lay : MethodName := ⟨RX9, "lay", "(II)I"⟩
abbrev cX9_judge : ByteArray := prog_1_method_40_code
def yX9_judge : MethodName := ⟨RX9, "judge", "(II)I"⟩
abbrev cX9_image : ByteArray := prog_1_method_41_code
def yX9_image : MethodName := ⟨RX9, "image", "()I"⟩
abbrev cX9_undo : ByteArray := prog_1_method_42_code
def yX9_undo : MethodName := ⟨RX9, "undo", "()I"⟩
abbrev cX9_isFlag : ByteArray := prog_1_method_43_code
def yX9_isFlag : MethodName := ⟨RX9, "isFlag", "(I)Z"⟩
abbrev cX9_isSex : ByteArray := prog_1_method_44_code
def yX9_isSex : MethodName := ⟨RX9, "isSex", "(I)Z"⟩
abbrev cX9_isLinkPart : ByteArray := prog_1_method_45_code
def yX9_isLinkPart : MethodName := ⟨RX9, "isLinkPart", "(II)Z"⟩
abbrev cX9_arePersons : ByteArray := prog_1_method_46_code
def yX9_arePersons : MethodName := ⟨RX9, "arePersons", "(II)Z"⟩
abbrev cX9_isEnd : ByteArray := prog_1_method_47_code
def yX9_isEnd : MethodName := ⟨RX9, "isEnd", "(III)Z"⟩
abbrev cX9_personEnd : ByteArray := prog_1_method_48_code
def yX9_personEnd : MethodName := ⟨RX9, "personEnd", "(LKinProver$World;III)I"⟩
abbrev cX9_yearsBetween : ByteArray := prog_1_method_49_code
def yX9_yearsBetween : MethodName := ⟨RX9, "yearsBetween", "(LKinProver$World;II)I"⟩
abbrev cX9_unsettle : ByteArray := prog_1_method_50_code
def yX9_unsettle : MethodName := ⟨RX9, "unsettle", "()V"⟩
abbrev cX9_settle : ByteArray := prog_1_method_51_code
def yX9_settle : MethodName := ⟨RX9, "settle", "()V"⟩
abbrev cX9_settleCulprits : ByteArray := prog_1_method_52_code
def yX9_settleCulprits : MethodName := ⟨RX9, "settleCulprits", "()V"⟩
abbrev cX9_workOneMore : ByteArray := prog_1_method_53_code
def yX9_workOneMore : MethodName := ⟨RX9, "workOneMore", "()V"⟩
abbrev cX9_seekWays : ByteArray := prog_1_method_54_code
def yX9_seekWays : MethodName := ⟨RX9, "seekWays", "(II)V"⟩
def RX10 : String := "KinProverModel"
def TX10 : u_T := fun k => match k with
  | 0 => ("KinProverModel", "s", "[I", true)
  | 1 => ("KinProverModel", "image", "[I", true)
  | 2 => ("KinProverModel", "isKept", "Z", false)
  | 3 => ("KinProverModel", "tape", "[I", true)
  | 4 => ("KinProverModel", "paper", "[I", true)
  | 5 => ("KinProverModel", "read", "[I", true)
  | 6 => ("KinProverModel", "letters", "I", false)
  | 7 => ("KinProverModel", "papers", "I", false)
  | 8 => ("KinProverModel", "at", "I", false)
  | 9 => ("KinProverModel", "fault", "I", false)
  | 10 => ("KinProverModel", "one", "[I", true)
  | 11 => ("KinProverModel", "mother", "[I", true)
  | 12 => ("KinProverModel", "father", "[I", true)
  | 13 => ("KinProverModel", "above", "[I", true)
  | 14 => ("KinProverModel", "end", "[I", true)
  | 15 => ("KinProverModel", "rule", "[I", true)
  | 16 => ("KinProverModel", "from", "[I", true)
  | 17 => ("KinProverModel", "clash", "I", false)
  | 18 => ("KinProverModel", "whom", "I", false)
  | 19 => ("KinProverModel", "rounds", "I", false)
  | 20 => ("KinProverModel", "ruled", "I", false)
  | 21 => ("KinProverModel", "isChanged", "Z", false)
  | 22 => ("KinProverModel", "up", "[I", true)
  | 23 => ("KinProverModel", "down", "[I", true)
  | 24 => ("KinProverModel", "path", "[I", true)
  | 25 => ("KinProverModel", "born", "[I", true)
  | 26 => ("KinProverModel", "age", "[I", true)
  | 27 => ("KinProverModel", "ancestor", "I", false)
  | 28 => ("KinProverModel", "paths", "I", false)
  | 29 => ("KinProverModel", "items", "[I", true)
  | _ => ("KinProverModel", "cell", "[I", true)
def tyX10 : Nat → FieldType := fun k => match k with
  | 0 => .array .int
  | 1 => .array .int
  | 2 => .boolean
  | 3 => .array .int
  | 4 => .array .int
  | 5 => .array .int
  | 6 => .int
  | 7 => .int
  | 8 => .int
  | 9 => .int
  | 10 => .array .int
  | 11 => .array .int
  | 12 => .array .int
  | 13 => .array .int
  | 14 => .array .int
  | 15 => .array .int
  | 16 => .array .int
  | 17 => .int
  | 18 => .int
  | 19 => .int
  | 20 => .int
  | 21 => .boolean
  | 22 => .array .int
  | 23 => .array .int
  | 24 => .array .int
  | 25 => .array .int
  | 26 => .array .int
  | 27 => .int
  | 28 => .int
  | 29 => .array .int
  | _ => .array .int
theorem nmX10 : ∀ a, a < 31 → ∀ b, b < 31 → a ≠ b → (TX10 a).2.1 ≠ (TX10 b).2.1 := by decide +kernel
theorem tyX10_ok : ∀ k, k < 31 → parseFieldDescriptor (TX10 k).2.2.1 = some (tyX10 k) := by decide +kernel
abbrev cX10_init : ByteArray := prog_12_method_1_code
def yX10_init : MethodName := ⟨RX10, "<init>", "()V"⟩
abbrev cX10_isIn : ByteArray := prog_12_method_2_code
def yX10_isIn : MethodName := ⟨RX10, "isIn", "(III)Z"⟩
abbrev cX10_isPerson : ByteArray := prog_12_method_3_code
def yX10_isPerson : MethodName := ⟨RX10, "isPerson", "(I)Z"⟩
abbrev cX10_isStatement : ByteArray := prog_12_method_4_code
def yX10_isStatement : MethodName := ⟨RX10, "isStatement", "(I)Z"⟩
abbrev cX10_told : ByteArray := prog_12_method_5_code
def yX10_told : MethodName := ⟨RX10, "told", "(II)I"⟩
abbrev cX10_isLive : ByteArray := prog_12_method_6_code
def yX10_isLive : MethodName := ⟨RX10, "isLive", "(II)Z"⟩
abbrev cX10_sexOf : ByteArray := prog_12_method_7_code
def yX10_sexOf : MethodName := ⟨RX10, "sexOf", "(I)I"⟩
abbrev cX10_letterOf : ByteArray := prog_12_method_8_code
def yX10_letterOf : MethodName := ⟨RX10, "letterOf", "(II)I"⟩
abbrev cX10_has : ByteArray := prog_12_method_9_code
def yX10_has : MethodName := ⟨RX10, "has", "(II)Z"⟩
abbrev cX10_ones : ByteArray := prog_12_method_10_code
def yX10_ones : MethodName := ⟨RX10, "ones", "(I)I"⟩
abbrev cX10_joins : ByteArray := prog_12_method_11_code
def yX10_joins : MethodName := ⟨RX10, "joins", "()V"⟩
abbrev cX10_isOne : ByteArray := prog_12_method_12_code
def yX10_isOne : MethodName := ⟨RX10, "isOne", "(I)Z"⟩
abbrev cX10_parents : ByteArray := prog_12_method_13_code
def yX10_parents : MethodName := ⟨RX10, "parents", "()V"⟩
abbrev cX10_sexes : ByteArray := prog_12_method_14_code
def yX10_sexes : MethodName := ⟨RX10, "sexes", "(I)I"⟩
abbrev cX10_clashes : ByteArray := prog_12_method_15_code
def yX10_clashes : MethodName := ⟨RX10, "clashes", "(II)V"⟩
abbrev cX10_looks : ByteArray := prog_12_method_16_code
def yX10_looks : MethodName := ⟨RX10, "looks", "()V"⟩
abbrev cX10_bornOf : ByteArray := prog_12_method_17_code
def yX10_bornOf : MethodName := ⟨RX10, "bornOf", "(I)I"⟩
abbrev cX10_yearOf : ByteArray := prog_12_method_18_code
def yX10_yearOf : MethodName := ⟨RX10, "yearOf", "(I)I"⟩
abbrev cX10_narrows : ByteArray := prog_12_method_19_code
def yX10_narrows : MethodName := ⟨RX10, "narrows", "(III)V"⟩
abbrev cX10_isWithin : ByteArray := prog_12_method_20_code
def yX10_isWithin : MethodName := ⟨RX10, "isWithin", "(III)V"⟩
abbrev cX10_differ : ByteArray := prog_12_method_21_code
def yX10_differ : MethodName := ⟨RX10, "differ", "(IIII)V"⟩
abbrev cX10_weds : ByteArray := prog_12_method_22_code
def yX10_weds : MethodName := ⟨RX10, "weds", "(II)V"⟩
abbrev cX10_applies : ByteArray := prog_12_method_23_code
def yX10_applies : MethodName := ⟨RX10, "applies", "(I)V"⟩
abbrev cX10_works : ByteArray := prog_12_method_24_code
def yX10_works : MethodName := ⟨RX10, "works", "()V"⟩
abbrev cX10_feed : ByteArray := prog_12_method_25_code
def yX10_feed : MethodName := ⟨RX10, "feed", "(I)I"⟩
abbrev cX10_clear : ByteArray := prog_12_method_26_code
def yX10_clear : MethodName := ⟨RX10, "clear", "()I"⟩
abbrev cX10_paper : ByteArray := prog_12_method_27_code
def yX10_paper : MethodName := ⟨RX10, "paper", "(I)I"⟩
abbrev cX10_lettersOnTape : ByteArray := prog_12_method_28_code
def yX10_lettersOnTape : MethodName := ⟨RX10, "lettersOnTape", "()I"⟩
abbrev cX10_person : ByteArray := prog_12_method_29_code
def yX10_person : MethodName := ⟨RX10, "person", "(I)I"⟩
abbrev cX10_sex : ByteArray := prog_12_method_30_code
def yX10_sex : MethodName := ⟨RX10, "sex", "(II)I"⟩
abbrev cX10_fails : ByteArray := prog_12_method_31_code
def yX10_fails : MethodName := ⟨RX10, "fails", "(I)V"⟩
abbrev cX10_number : ByteArray := prog_12_method_32_code
def yX10_number : MethodName := ⟨RX10, "number", "(III)I"⟩
abbrev cX10_sortOf : ByteArray := prog_12_method_33_code
def yX10_sortOf : MethodName := ⟨RX10, "sortOf", "(I)I"⟩
abbrev cX10_isOfTwo : ByteArray := prog_12_method_34_code
def yX10_isOfTwo : MethodName := ⟨RX10, "isOfTwo", "(I)Z"⟩
abbrev cX10_isOfYears : ByteArray := prog_12_method_35_code
def yX10_isOfYears : MethodName := ⟨RX10, "isOfYears", "(I)Z"⟩
abbrev cX10_reads : ByteArray := prog_12_method_36_code
def yX10_reads : MethodName := ⟨RX10, "reads", "()Z"⟩
abbrev cX10_comes : ByteArray := prog_12_method_37_code
def yX10_comes : MethodName := ⟨RX10, "comes", "(I)V"⟩
abbrev cX10_state : ByteArray := prog_12_method_38_code
def yX10_state : MethodName := ⟨RX10, "state", "(I)I"⟩
abbrev cX10_live : ByteArray := prog_12_method_39_code
def yX10_live : MethodName := ⟨RX10, "live", "(II)I"⟩
abbrev cX10_of : ByteArray := prog_12_method_40_code
def yX10_of : MethodName := ⟨RX10, "of", "(II)I"⟩
abbrev cX10_writes : ByteArray := prog_12_method_41_code
def yX10_writes : MethodName := ⟨RX10, "writes", "(I)V"⟩
abbrev cX10_writesNumber : ByteArray := prog_12_method_42_code
def yX10_writesNumber : MethodName := ⟨RX10, "writesNumber", "(I)V"⟩
abbrev cX10_spell : ByteArray := prog_12_method_43_code
def yX10_spell : MethodName := ⟨RX10, "spell", "(I)I"⟩
abbrev cX10_lengthOf : ByteArray := prog_12_method_44_code
def yX10_lengthOf : MethodName := ⟨RX10, "lengthOf", "(I)I"⟩
abbrev cX10_compares : ByteArray := prog_12_method_45_code
def yX10_compares : MethodName := ⟨RX10, "compares", "(II)I"⟩
abbrev cX10_name : ByteArray := prog_12_method_46_code
def yX10_name : MethodName := ⟨RX10, "name", "(II)I"⟩
abbrev cX10_find : ByteArray := prog_12_method_47_code
def yX10_find : MethodName := ⟨RX10, "find", "(I)I"⟩
abbrev cX10_byName : ByteArray := prog_12_method_48_code
def yX10_byName : MethodName := ⟨RX10, "byName", "(I)I"⟩
abbrev cX10_least : ByteArray := prog_12_method_49_code
def yX10_least : MethodName := ⟨RX10, "least", "(I)I"⟩
abbrev cX10_childrenOf : ByteArray := prog_12_method_50_code
def yX10_childrenOf : MethodName := ⟨RX10, "childrenOf", "(I)I"⟩
abbrev cX10_marriedTo : ByteArray := prog_12_method_51_code
def yX10_marriedTo : MethodName := ⟨RX10, "marriedTo", "(I)I"⟩
abbrev cX10_marriages : ByteArray := prog_12_method_52_code
def yX10_marriages : MethodName := ⟨RX10, "marriages", "(I)I"⟩
abbrev cX10_ages : ByteArray := prog_12_method_53_code
def yX10_ages : MethodName := ⟨RX10, "ages", "()Z"⟩
abbrev cX10_people : ByteArray := prog_12_method_54_code
def yX10_people : MethodName := ⟨RX10, "people", "(II)I"⟩
abbrev cX10_isEnd : ByteArray := prog_12_method_55_code
def yX10_isEnd : MethodName := ⟨RX10, "isEnd", "(III)Z"⟩
abbrev cX10_endOf : ByteArray := prog_12_method_56_code
def yX10_endOf : MethodName := ⟨RX10, "endOf", "(III)I"⟩
abbrev cX10_end : ByteArray := prog_12_method_57_code
def yX10_end : MethodName := ⟨RX10, "end", "(III)I"⟩
abbrev cX10_year : ByteArray := prog_12_method_58_code
def yX10_year : MethodName := ⟨RX10, "year", "(II)I"⟩
abbrev cX10_toldRange : ByteArray := prog_12_method_59_code
def yX10_toldRange : MethodName := ⟨RX10, "toldRange", "(I)I"⟩
abbrev cX10_rests : ByteArray := prog_12_method_60_code
def yX10_rests : MethodName := ⟨RX10, "rests", "(III)I"⟩
abbrev cX10_isLink : ByteArray := prog_12_method_61_code
def yX10_isLink : MethodName := ⟨RX10, "isLink", "(II)Z"⟩
abbrev cX10_proof : ByteArray := prog_12_method_62_code
def yX10_proof : MethodName := ⟨RX10, "proof", "(IIIII)I"⟩
abbrev cX10_prove : ByteArray := prog_12_method_63_code
def yX10_prove : MethodName := ⟨RX10, "prove", "(III)I"⟩
abbrev cX10_clash : ByteArray := prog_12_method_64_code
def yX10_clash : MethodName := ⟨RX10, "clash", "(I)I"⟩
abbrev cX10_why : ByteArray := prog_12_method_65_code
def yX10_why : MethodName := ⟨RX10, "why", "(III)I"⟩
abbrev cX10_culprit : ByteArray := prog_12_method_66_code
def yX10_culprit : MethodName := ⟨RX10, "culprit", "(I)I"⟩
abbrev cX10_same : ByteArray := prog_12_method_67_code
def yX10_same : MethodName := ⟨RX10, "same", "(II)I"⟩
abbrev cX10_widthOf : ByteArray := prog_12_method_68_code
def yX10_widthOf : MethodName := ⟨RX10, "widthOf", "(II)I"⟩
abbrev cX10_narrows_ : ByteArray := prog_12_method_69_code
def yX10_narrows_ : MethodName := ⟨RX10, "narrows", "(II)I"⟩
abbrev cX10_rounds : ByteArray := prog_12_method_70_code
def yX10_rounds : MethodName := ⟨RX10, "rounds", "()I"⟩
abbrev cX10_steps : ByteArray := prog_12_method_71_code
def yX10_steps : MethodName := ⟨RX10, "steps", "(I[I)V"⟩
abbrev cX10_meets : ByteArray := prog_12_method_72_code
def yX10_meets : MethodName := ⟨RX10, "meets", "(II)Z"⟩
abbrev cX10_areTwo : ByteArray := prog_12_method_73_code
def yX10_areTwo : MethodName := ⟨RX10, "areTwo", "(II)Z"⟩
abbrev cX10_kin : ByteArray := prog_12_method_74_code
def yX10_kin : MethodName := ⟨RX10, "kin", "(II)I"⟩
abbrev cX10_common : ByteArray := prog_12_method_75_code
def yX10_common : MethodName := ⟨RX10, "common", "(II)I"⟩
abbrev cX10_under : ByteArray := prog_12_method_76_code
def yX10_under : MethodName := ⟨RX10, "under", "(I[I)I"⟩
abbrev cX10_isHalf : ByteArray := prog_12_method_77_code
def yX10_isHalf : MethodName := ⟨RX10, "isHalf", "()Z"⟩
abbrev cX10_half : ByteArray := prog_12_method_78_code
def yX10_half : MethodName := ⟨RX10, "half", "(II)I"⟩
abbrev cX10_writes_ : ByteArray := prog_12_method_79_code
def yX10_writes_ : MethodName := ⟨RX10, "writes", "(Ljava/lang/String;)V"⟩
abbrev cX10_writesBy : ByteArray := prog_12_method_80_code
def yX10_writesBy : MethodName := ⟨RX10, "writesBy", "(ILjava/lang/String;Ljava/lang/String;Ljava/lang/String;)V"⟩
abbrev cX10_grands : ByteArray := prog_12_method_81_code
def yX10_grands : MethodName := ⟨RX10, "grands", "(I)V"⟩
abbrev cX10_title : ByteArray := prog_12_method_82_code
def yX10_title : MethodName := ⟨RX10, "title", "(II)I"⟩
abbrev cX10_path : ByteArray := prog_12_method_83_code
def yX10_path : MethodName := ⟨RX10, "path", "(III)I"⟩
abbrev cX10_relatives : ByteArray := prog_12_method_84_code
def yX10_relatives : MethodName := ⟨RX10, "relatives", "(II)J"⟩
abbrev cX10_ancestors : ByteArray := prog_12_method_85_code
def yX10_ancestors : MethodName := ⟨RX10, "ancestors", "(I)J"⟩
abbrev cX10_descendants : ByteArray := prog_12_method_86_code
def yX10_descendants : MethodName := ⟨RX10, "descendants", "(I)J"⟩
abbrev cX10_isBornAhead : ByteArray := prog_12_method_87_code
def yX10_isBornAhead : MethodName := ⟨RX10, "isBornAhead", "(II)Z"⟩
abbrev cX10_orders : ByteArray := prog_12_method_88_code
def yX10_orders : MethodName := ⟨RX10, "orders", "()I"⟩
abbrev cX10_order : ByteArray := prog_12_method_89_code
def yX10_order : MethodName := ⟨RX10, "order", "(I)I"⟩
abbrev cX10_ahead : ByteArray := prog_12_method_90_code
def yX10_ahead : MethodName := ⟨RX10, "ahead", "(II)I"⟩
abbrev cX10_told_ : ByteArray := prog_12_method_91_code
def yX10_told_ : MethodName := ⟨RX10, "told", "(I)I"⟩
abbrev cX10_isList : ByteArray := prog_12_method_92_code
def yX10_isList : MethodName := ⟨RX10, "isList", "(I)Z"⟩
abbrev cX10_list : ByteArray := prog_12_method_93_code
def yX10_list : MethodName := ⟨RX10, "list", "(II)I"⟩
abbrev cX10_set : ByteArray := prog_12_method_94_code
def yX10_set : MethodName := ⟨RX10, "set", "(III)I"⟩
abbrev cX10_get : ByteArray := prog_12_method_95_code
def yX10_get : MethodName := ⟨RX10, "get", "(II)J"⟩
abbrev cX10_lay : ByteArray := prog_12_method_96_code
def yX10_lay : MethodName := ⟨RX10, "lay", "(II)I"⟩
abbrev cX10_judge : ByteArray := prog_12_method_97_code
def yX10_judge : MethodName := ⟨RX10, "judge", "(II)I"⟩
abbrev cX10_copies : ByteArray := prog_12_method_98_code
def yX10_copies : MethodName := ⟨RX10, "copies", "([I[I)V"⟩
abbrev cX10_image : ByteArray := prog_12_method_99_code
def yX10_image : MethodName := ⟨RX10, "image", "()I"⟩
abbrev cX10_undo : ByteArray := prog_12_method_100_code
def yX10_undo : MethodName := ⟨RX10, "undo", "()I"⟩
def RJ6 : String := "java/lang/Integer"
def TJ6 : u_T := fun k => match k with
  | _ => ("", "", "", false)
def tyJ6 : Nat → FieldType := fun k => match k with
  | _ => .int
abbrev cJ6_bitCount_0f7a4 : ByteArray := prog_13_method_49_code
def yJ6_bitCount_0f7a4 : MethodName := ⟨RJ6, "bitCount", "(I)I"⟩
def RJ9 : String := "java/lang/Math"
def TJ9 : u_T := fun k => match k with
  | _ => ("", "", "", false)
def tyJ9 : Nat → FieldType := fun k => match k with
  | _ => .int
abbrev cJ9_abs_0f7a4 : ByteArray := prog_14_method_59_code
def yJ9_abs_0f7a4 : MethodName := ⟨RJ9, "abs", "(I)I"⟩
abbrev cJ9_max_7cf53 : ByteArray := prog_14_method_65_code
def yJ9_max_7cf53 : MethodName := ⟨RJ9, "max", "(II)I"⟩
abbrev cJ9_min_7cf53 : ByteArray := prog_14_method_69_code
def yJ9_min_7cf53 : MethodName := ⟨RJ9, "min", "(II)I"⟩
def RJ0 : String := "java/lang/String"
def TJ0 : u_T := fun k => match k with
  | _ => ("", "", "", false)
def tyJ0 : Nat → FieldType := fun k => match k with
  | _ => .int
abbrev cJ0_length_8abf5 : ByteArray := prog_15_method_54_code
def yJ0_length_8abf5 : MethodName := ⟨RJ0, "length", "()I"⟩
abbrev cJ0_charAt_5068e : ByteArray := prog_15_method_56_code
def yJ0_charAt_5068e : MethodName := ⟨RJ0, "charAt", "(I)C"⟩
abbrev cJ0_coder_7d493 : ByteArray := prog_15_method_152_code
def yJ0_coder_7d493 : MethodName := ⟨RJ0, "coder", "()B"⟩
abbrev cJ0_isLatin1_aae02 : ByteArray := prog_15_method_154_code
def yJ0_isLatin1_aae02 : MethodName := ⟨RJ0, "isLatin1", "()Z"⟩
abbrev cJ0_checkIndex_df160 : ByteArray := prog_15_method_155_code
def yJ0_checkIndex_df160 : MethodName := ⟨RJ0, "checkIndex", "(II)V"⟩
def RJ1 : String := "java/lang/StringLatin1"
def TJ1 : u_T := fun k => match k with
  | _ => ("", "", "", false)
def tyJ1 : Nat → FieldType := fun k => match k with
  | _ => .int
abbrev cJ1_charAt_3b067 : ByteArray := prog_16_method_2_code
def yJ1_charAt_3b067 : MethodName := ⟨RJ1, "charAt", "([BI)C"⟩
def RJ2 : String := "java/lang/StringUTF16"
def TJ2 : u_T := fun k => match k with
  | _ => ("", "", "", false)
def tyJ2 : Nat → FieldType := fun k => match k with
  | _ => .int
abbrev cJ2_getChar_3b067 : ByteArray := prog_17_method_5_code
def yJ2_getChar_3b067 : MethodName := ⟨RJ2, "getChar", "([BI)C"⟩
abbrev cJ2_length_9d52b : ByteArray := prog_17_method_6_code
def yJ2_length_9d52b : MethodName := ⟨RJ2, "length", "([B)I"⟩
abbrev cJ2_charAt_3b067 : ByteArray := prog_17_method_83_code
def yJ2_charAt_3b067 : MethodName := ⟨RJ2, "charAt", "([BI)C"⟩
abbrev cJ2_checkIndex_2214a : ByteArray := prog_17_method_91_code
def yJ2_checkIndex_2214a : MethodName := ⟨RJ2, "checkIndex", "(I[B)V"⟩
def RJ10 : String := "java/lang/System"
def TJ10 : u_T := fun k => match k with
  | _ => ("", "", "", false)
def tyJ10 : Nat → FieldType := fun k => match k with
  | _ => .int
def RJ3 : String := "jdk/internal/util/Preconditions"
def TJ3 : u_T := fun k => match k with
  | _ => ("", "", "", false)
def tyJ3 : Nat → FieldType := fun k => match k with
  | _ => .int
abbrev cJ3_checkIndex_8e157 : ByteArray := prog_19_method_11_code
def yJ3_checkIndex_8e157 : MethodName := ⟨RJ3, "checkIndex", "(IILjava/util/function/BiFunction;)I"⟩
def RL : String := "KinProverLaw"
abbrev cL_law : ByteArray := code
def yL_law : MethodName := ⟨RL, "law", "([I)Z"⟩
abbrev vwCl : List vw_C := [(RX0, TX0, 11), (RX1, TX1, 13), (RX2, TX2, 2), (RX3, TX3, 12), (RX4, TX4, 8), (RX5, TX5, 2), (RX7, TX7, 5), (RX8, TX8, 7), (RX9, TX9, 14), (RX10, TX10, 31)]
