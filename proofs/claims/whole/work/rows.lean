section
-- ===== PART A: goes FIRST, ahead of the names: the tables' words, and 'selects' of the private methods out of them =====
/-- a private method of a class that the tables say can be made, by its rows of tables_1 -/
def lw_okq (q : MethodName × Nat) : Prop := (q.1.cls ≠ "java/lang/invoke/MethodHandle" ∧ q.1.cls ≠ "java/lang/invoke/VarHandle") ∧ Cond.instantiable q.1.cls q.2 ∈ tables_1 ∧ Cond.privateMethod q.1 ∈ tables_1 ∧ Cond.instanceMethod q.1 ∈ tables_1
theorem lw_p0 : lw_okq (⟨"KinProver", "unsettle", "()V"⟩, 14) := ⟨⟨by decide +kernel, by decide +kernel⟩, List.mem_of_getElem? (i := 20) (by decide +kernel), List.mem_of_getElem? (i := 410) (by decide +kernel), List.mem_of_getElem? (i := 411) (by decide +kernel)⟩
theorem lw_p1 : lw_okq (⟨"KinProver$Reader", "takeNumber", "(LKinProver$Text;II)I"⟩, 8) := ⟨⟨by decide +kernel, by decide +kernel⟩, List.mem_of_getElem? (i := 111) (by decide +kernel), List.mem_of_getElem? (i := 439) (by decide +kernel), List.mem_of_getElem? (i := 440) (by decide +kernel)⟩
theorem lw_p2 : lw_okq (⟨"KinProver$Book", "isNamed", "(ILKinProver$Text;)Z"⟩, 11) := ⟨⟨by decide +kernel, by decide +kernel⟩, List.mem_of_getElem? (i := 28) (by decide +kernel), List.mem_of_getElem? (i := 505) (by decide +kernel), List.mem_of_getElem? (i := 506) (by decide +kernel)⟩
theorem lw_p3 : lw_okq (⟨"KinProver$Book", "compareNames", "(II)I"⟩, 11) := ⟨⟨by decide +kernel, by decide +kernel⟩, List.mem_of_getElem? (i := 28) (by decide +kernel), List.mem_of_getElem? (i := 518) (by decide +kernel), List.mem_of_getElem? (i := 519) (by decide +kernel)⟩
theorem lw_p4 : lw_okq (⟨"KinProver", "settle", "()V"⟩, 14) := ⟨⟨by decide +kernel, by decide +kernel⟩, List.mem_of_getElem? (i := 20) (by decide +kernel), List.mem_of_getElem? (i := 526) (by decide +kernel), List.mem_of_getElem? (i := 527) (by decide +kernel)⟩
theorem lw_p5 : lw_okq (⟨"KinProver$Folk", "wipe", "()V"⟩, 13) := ⟨⟨by decide +kernel, by decide +kernel⟩, List.mem_of_getElem? (i := 154) (by decide +kernel), List.mem_of_getElem? (i := 539) (by decide +kernel), List.mem_of_getElem? (i := 540) (by decide +kernel)⟩
theorem lw_p6 : lw_okq (⟨"KinProver$Folk", "joinSames", "(LKinProver$Book;[II)V"⟩, 13) := ⟨⟨by decide +kernel, by decide +kernel⟩, List.mem_of_getElem? (i := 154) (by decide +kernel), List.mem_of_getElem? (i := 543) (by decide +kernel), List.mem_of_getElem? (i := 544) (by decide +kernel)⟩
theorem lw_p7 : lw_okq (⟨"KinProver$Folk", "rename", "(III)V"⟩, 13) := ⟨⟨by decide +kernel, by decide +kernel⟩, List.mem_of_getElem? (i := 154) (by decide +kernel), List.mem_of_getElem? (i := 553) (by decide +kernel), List.mem_of_getElem? (i := 554) (by decide +kernel)⟩
theorem lw_p8 : lw_okq (⟨"KinProver$Folk", "hear", "(LKinProver$Book;I)V"⟩, 13) := ⟨⟨by decide +kernel, by decide +kernel⟩, List.mem_of_getElem? (i := 154) (by decide +kernel), List.mem_of_getElem? (i := 563) (by decide +kernel), List.mem_of_getElem? (i := 564) (by decide +kernel)⟩
theorem lw_p9 : lw_okq (⟨"KinProver$Folk", "climb", "()V"⟩, 13) := ⟨⟨by decide +kernel, by decide +kernel⟩, List.mem_of_getElem? (i := 154) (by decide +kernel), List.mem_of_getElem? (i := 567) (by decide +kernel), List.mem_of_getElem? (i := 568) (by decide +kernel)⟩
theorem lw_p10 : lw_okq (⟨"KinProver$Folk", "generationOver", "(I)I"⟩, 13) := ⟨⟨by decide +kernel, by decide +kernel⟩, List.mem_of_getElem? (i := 154) (by decide +kernel), List.mem_of_getElem? (i := 581) (by decide +kernel), List.mem_of_getElem? (i := 582) (by decide +kernel)⟩
theorem lw_p11 : lw_okq (⟨"KinProver$World", "note", "(II)V"⟩, 7) := ⟨⟨by decide +kernel, by decide +kernel⟩, List.mem_of_getElem? (i := 148) (by decide +kernel), List.mem_of_getElem? (i := 593) (by decide +kernel), List.mem_of_getElem? (i := 594) (by decide +kernel)⟩
theorem lw_p12 : lw_okq (⟨"KinProver$World", "takeRules", "(LKinProver$Book;)V"⟩, 7) := ⟨⟨by decide +kernel, by decide +kernel⟩, List.mem_of_getElem? (i := 148) (by decide +kernel), List.mem_of_getElem? (i := 602) (by decide +kernel), List.mem_of_getElem? (i := 603) (by decide +kernel)⟩
theorem lw_p13 : lw_okq (⟨"KinProver$Ranges", "addLess", "(IIIII)V"⟩, 12) := ⟨⟨by decide +kernel, by decide +kernel⟩, List.mem_of_getElem? (i := 208) (by decide +kernel), List.mem_of_getElem? (i := 617) (by decide +kernel), List.mem_of_getElem? (i := 618) (by decide +kernel)⟩
theorem lw_p14 : lw_okq (⟨"KinProver$Ranges", "addIn", "(IIII)V"⟩, 12) := ⟨⟨by decide +kernel, by decide +kernel⟩, List.mem_of_getElem? (i := 208) (by decide +kernel), List.mem_of_getElem? (i := 625) (by decide +kernel), List.mem_of_getElem? (i := 626) (by decide +kernel)⟩
theorem lw_p15 : lw_okq (⟨"KinProver$Ranges", "addMarriedOne", "(II)V"⟩, 12) := ⟨⟨by decide +kernel, by decide +kernel⟩, List.mem_of_getElem? (i := 208) (by decide +kernel), List.mem_of_getElem? (i := 630) (by decide +kernel), List.mem_of_getElem? (i := 631) (by decide +kernel)⟩
def lw_privs_1 : List (MethodName × Nat) := [(⟨"KinProver", "unsettle", "()V"⟩, 14), (⟨"KinProver$Reader", "takeNumber", "(LKinProver$Text;II)I"⟩, 8), (⟨"KinProver$Book", "isNamed", "(ILKinProver$Text;)Z"⟩, 11), (⟨"KinProver$Book", "compareNames", "(II)I"⟩, 11), (⟨"KinProver", "settle", "()V"⟩, 14), (⟨"KinProver$Folk", "wipe", "()V"⟩, 13), (⟨"KinProver$Folk", "joinSames", "(LKinProver$Book;[II)V"⟩, 13), (⟨"KinProver$Folk", "rename", "(III)V"⟩, 13), (⟨"KinProver$Folk", "hear", "(LKinProver$Book;I)V"⟩, 13), (⟨"KinProver$Folk", "climb", "()V"⟩, 13), (⟨"KinProver$Folk", "generationOver", "(I)I"⟩, 13), (⟨"KinProver$World", "note", "(II)V"⟩, 7), (⟨"KinProver$World", "takeRules", "(LKinProver$Book;)V"⟩, 7), (⟨"KinProver$Ranges", "addLess", "(IIIII)V"⟩, 12), (⟨"KinProver$Ranges", "addIn", "(IIII)V"⟩, 12), (⟨"KinProver$Ranges", "addMarriedOne", "(II)V"⟩, 12)]
theorem lw_r1 : ∀ q ∈ lw_privs_1, lw_okq q := List.forall_mem_cons.mpr ⟨lw_p0, List.forall_mem_cons.mpr ⟨lw_p1, List.forall_mem_cons.mpr ⟨lw_p2, List.forall_mem_cons.mpr ⟨lw_p3, List.forall_mem_cons.mpr ⟨lw_p4, List.forall_mem_cons.mpr ⟨lw_p5, List.forall_mem_cons.mpr ⟨lw_p6, List.forall_mem_cons.mpr ⟨lw_p7, List.forall_mem_cons.mpr ⟨lw_p8, List.forall_mem_cons.mpr ⟨lw_p9, List.forall_mem_cons.mpr ⟨lw_p10, List.forall_mem_cons.mpr ⟨lw_p11, List.forall_mem_cons.mpr ⟨lw_p12, List.forall_mem_cons.mpr ⟨lw_p13, List.forall_mem_cons.mpr ⟨lw_p14, List.forall_mem_cons.mpr ⟨lw_p15, fun _ h => absurd h List.not_mem_nil⟩⟩⟩⟩⟩⟩⟩⟩⟩⟩⟩⟩⟩⟩⟩⟩
theorem lw_p16 : lw_okq (⟨"KinProver$Ranges", "apply", "(I)V"⟩, 12) := ⟨⟨by decide +kernel, by decide +kernel⟩, List.mem_of_getElem? (i := 208) (by decide +kernel), List.mem_of_getElem? (i := 639) (by decide +kernel), List.mem_of_getElem? (i := 640) (by decide +kernel)⟩
theorem lw_p17 : lw_okq (⟨"KinProver$Ranges", "raise", "(IIII)V"⟩, 12) := ⟨⟨by decide +kernel, by decide +kernel⟩, List.mem_of_getElem? (i := 208) (by decide +kernel), List.mem_of_getElem? (i := 643) (by decide +kernel), List.mem_of_getElem? (i := 644) (by decide +kernel)⟩
theorem lw_p18 : lw_okq (⟨"KinProver$Ranges", "change", "(IIII)V"⟩, 12) := ⟨⟨by decide +kernel, by decide +kernel⟩, List.mem_of_getElem? (i := 208) (by decide +kernel), List.mem_of_getElem? (i := 647) (by decide +kernel), List.mem_of_getElem? (i := 648) (by decide +kernel)⟩
theorem lw_p19 : lw_okq (⟨"KinProver$Ranges", "lower", "(IIII)V"⟩, 12) := ⟨⟨by decide +kernel, by decide +kernel⟩, List.mem_of_getElem? (i := 208) (by decide +kernel), List.mem_of_getElem? (i := 651) (by decide +kernel), List.mem_of_getElem? (i := 652) (by decide +kernel)⟩
theorem lw_p20 : lw_okq (⟨"KinProver$World", "isBornAhead", "(II)Z"⟩, 7) := ⟨⟨by decide +kernel, by decide +kernel⟩, List.mem_of_getElem? (i := 148) (by decide +kernel), List.mem_of_getElem? (i := 659) (by decide +kernel), List.mem_of_getElem? (i := 660) (by decide +kernel)⟩
theorem lw_p21 : lw_okq (⟨"KinProver", "isEnd", "(III)Z"⟩, 14) := ⟨⟨by decide +kernel, by decide +kernel⟩, List.mem_of_getElem? (i := 20) (by decide +kernel), List.mem_of_getElem? (i := 681) (by decide +kernel), List.mem_of_getElem? (i := 682) (by decide +kernel)⟩
theorem lw_p22 : lw_okq (⟨"KinProver$Ranges", "follow", "(II)I"⟩, 12) := ⟨⟨by decide +kernel, by decide +kernel⟩, List.mem_of_getElem? (i := 208) (by decide +kernel), List.mem_of_getElem? (i := 703) (by decide +kernel), List.mem_of_getElem? (i := 704) (by decide +kernel)⟩
theorem lw_p23 : lw_okq (⟨"KinProver", "settleCulprits", "()V"⟩, 14) := ⟨⟨by decide +kernel, by decide +kernel⟩, List.mem_of_getElem? (i := 20) (by decide +kernel), List.mem_of_getElem? (i := 737) (by decide +kernel), List.mem_of_getElem? (i := 738) (by decide +kernel)⟩
theorem lw_p24 : lw_okq (⟨"KinProver", "arePersons", "(II)Z"⟩, 14) := ⟨⟨by decide +kernel, by decide +kernel⟩, List.mem_of_getElem? (i := 20) (by decide +kernel), List.mem_of_getElem? (i := 745) (by decide +kernel), List.mem_of_getElem? (i := 746) (by decide +kernel)⟩
theorem lw_p25 : lw_okq (⟨"KinProver", "workOneMore", "()V"⟩, 14) := ⟨⟨by decide +kernel, by decide +kernel⟩, List.mem_of_getElem? (i := 20) (by decide +kernel), List.mem_of_getElem? (i := 753) (by decide +kernel), List.mem_of_getElem? (i := 754) (by decide +kernel)⟩
theorem lw_p26 : lw_okq (⟨"KinProver", "seekWays", "(II)V"⟩, 14) := ⟨⟨by decide +kernel, by decide +kernel⟩, List.mem_of_getElem? (i := 20) (by decide +kernel), List.mem_of_getElem? (i := 772) (by decide +kernel), List.mem_of_getElem? (i := 773) (by decide +kernel)⟩
theorem lw_p27 : lw_okq (⟨"KinProver$Ways", "isNearer", "(I)Z"⟩, 5) := ⟨⟨by decide +kernel, by decide +kernel⟩, List.mem_of_getElem? (i := 284) (by decide +kernel), List.mem_of_getElem? (i := 784) (by decide +kernel), List.mem_of_getElem? (i := 785) (by decide +kernel)⟩
theorem lw_p28 : lw_okq (⟨"KinProver$Ways", "descend", "(LKinProver$Folk;[II)I"⟩, 5) := ⟨⟨by decide +kernel, by decide +kernel⟩, List.mem_of_getElem? (i := 284) (by decide +kernel), List.mem_of_getElem? (i := 800) (by decide +kernel), List.mem_of_getElem? (i := 801) (by decide +kernel)⟩
theorem lw_p29 : lw_okq (⟨"KinProverModel", "works", "()V"⟩, 31) := ⟨⟨by decide +kernel, by decide +kernel⟩, List.mem_of_getElem? (i := 1009) (by decide +kernel), List.mem_of_getElem? (i := 1015) (by decide +kernel), List.mem_of_getElem? (i := 1016) (by decide +kernel)⟩
theorem lw_p30 : lw_okq (⟨"KinProverModel", "joins", "()V"⟩, 31) := ⟨⟨by decide +kernel, by decide +kernel⟩, List.mem_of_getElem? (i := 1009) (by decide +kernel), List.mem_of_getElem? (i := 1019) (by decide +kernel), List.mem_of_getElem? (i := 1020) (by decide +kernel)⟩
theorem lw_p31 : lw_okq (⟨"KinProverModel", "isLive", "(II)Z"⟩, 31) := ⟨⟨by decide +kernel, by decide +kernel⟩, List.mem_of_getElem? (i := 1009) (by decide +kernel), List.mem_of_getElem? (i := 1023) (by decide +kernel), List.mem_of_getElem? (i := 1024) (by decide +kernel)⟩
def lw_privs_2 : List (MethodName × Nat) := [(⟨"KinProver$Ranges", "apply", "(I)V"⟩, 12), (⟨"KinProver$Ranges", "raise", "(IIII)V"⟩, 12), (⟨"KinProver$Ranges", "change", "(IIII)V"⟩, 12), (⟨"KinProver$Ranges", "lower", "(IIII)V"⟩, 12), (⟨"KinProver$World", "isBornAhead", "(II)Z"⟩, 7), (⟨"KinProver", "isEnd", "(III)Z"⟩, 14), (⟨"KinProver$Ranges", "follow", "(II)I"⟩, 12), (⟨"KinProver", "settleCulprits", "()V"⟩, 14), (⟨"KinProver", "arePersons", "(II)Z"⟩, 14), (⟨"KinProver", "workOneMore", "()V"⟩, 14), (⟨"KinProver", "seekWays", "(II)V"⟩, 14), (⟨"KinProver$Ways", "isNearer", "(I)Z"⟩, 5), (⟨"KinProver$Ways", "descend", "(LKinProver$Folk;[II)I"⟩, 5), (⟨"KinProverModel", "works", "()V"⟩, 31), (⟨"KinProverModel", "joins", "()V"⟩, 31), (⟨"KinProverModel", "isLive", "(II)Z"⟩, 31)]
theorem lw_r2 : ∀ q ∈ lw_privs_2, lw_okq q := List.forall_mem_cons.mpr ⟨lw_p16, List.forall_mem_cons.mpr ⟨lw_p17, List.forall_mem_cons.mpr ⟨lw_p18, List.forall_mem_cons.mpr ⟨lw_p19, List.forall_mem_cons.mpr ⟨lw_p20, List.forall_mem_cons.mpr ⟨lw_p21, List.forall_mem_cons.mpr ⟨lw_p22, List.forall_mem_cons.mpr ⟨lw_p23, List.forall_mem_cons.mpr ⟨lw_p24, List.forall_mem_cons.mpr ⟨lw_p25, List.forall_mem_cons.mpr ⟨lw_p26, List.forall_mem_cons.mpr ⟨lw_p27, List.forall_mem_cons.mpr ⟨lw_p28, List.forall_mem_cons.mpr ⟨lw_p29, List.forall_mem_cons.mpr ⟨lw_p30, List.forall_mem_cons.mpr ⟨lw_p31, fun _ h => absurd h List.not_mem_nil⟩⟩⟩⟩⟩⟩⟩⟩⟩⟩⟩⟩⟩⟩⟩⟩
theorem lw_p32 : lw_okq (⟨"KinProverModel", "told", "(II)I"⟩, 31) := ⟨⟨by decide +kernel, by decide +kernel⟩, List.mem_of_getElem? (i := 1009) (by decide +kernel), List.mem_of_getElem? (i := 1027) (by decide +kernel), List.mem_of_getElem? (i := 1028) (by decide +kernel)⟩
theorem lw_p33 : lw_okq (⟨"KinProverModel", "parents", "()V"⟩, 31) := ⟨⟨by decide +kernel, by decide +kernel⟩, List.mem_of_getElem? (i := 1009) (by decide +kernel), List.mem_of_getElem? (i := 1032) (by decide +kernel), List.mem_of_getElem? (i := 1033) (by decide +kernel)⟩
theorem lw_p34 : lw_okq (⟨"KinProverModel", "looks", "()V"⟩, 31) := ⟨⟨by decide +kernel, by decide +kernel⟩, List.mem_of_getElem? (i := 1009) (by decide +kernel), List.mem_of_getElem? (i := 1039) (by decide +kernel), List.mem_of_getElem? (i := 1040) (by decide +kernel)⟩
theorem lw_p35 : lw_okq (⟨"KinProverModel", "isOne", "(I)Z"⟩, 31) := ⟨⟨by decide +kernel, by decide +kernel⟩, List.mem_of_getElem? (i := 1009) (by decide +kernel), List.mem_of_getElem? (i := 1043) (by decide +kernel), List.mem_of_getElem? (i := 1044) (by decide +kernel)⟩
theorem lw_p36 : lw_okq (⟨"KinProverModel", "sexes", "(I)I"⟩, 31) := ⟨⟨by decide +kernel, by decide +kernel⟩, List.mem_of_getElem? (i := 1009) (by decide +kernel), List.mem_of_getElem? (i := 1047) (by decide +kernel), List.mem_of_getElem? (i := 1048) (by decide +kernel)⟩
theorem lw_p37 : lw_okq (⟨"KinProverModel", "sexOf", "(I)I"⟩, 31) := ⟨⟨by decide +kernel, by decide +kernel⟩, List.mem_of_getElem? (i := 1009) (by decide +kernel), List.mem_of_getElem? (i := 1051) (by decide +kernel), List.mem_of_getElem? (i := 1052) (by decide +kernel)⟩
theorem lw_p38 : lw_okq (⟨"KinProverModel", "clashes", "(II)V"⟩, 31) := ⟨⟨by decide +kernel, by decide +kernel⟩, List.mem_of_getElem? (i := 1009) (by decide +kernel), List.mem_of_getElem? (i := 1055) (by decide +kernel), List.mem_of_getElem? (i := 1056) (by decide +kernel)⟩
theorem lw_p39 : lw_okq (⟨"KinProverModel", "differ", "(IIII)V"⟩, 31) := ⟨⟨by decide +kernel, by decide +kernel⟩, List.mem_of_getElem? (i := 1009) (by decide +kernel), List.mem_of_getElem? (i := 1065) (by decide +kernel), List.mem_of_getElem? (i := 1066) (by decide +kernel)⟩
theorem lw_p40 : lw_okq (⟨"KinProverModel", "narrows", "(III)V"⟩, 31) := ⟨⟨by decide +kernel, by decide +kernel⟩, List.mem_of_getElem? (i := 1009) (by decide +kernel), List.mem_of_getElem? (i := 1069) (by decide +kernel), List.mem_of_getElem? (i := 1070) (by decide +kernel)⟩
theorem lw_p41 : lw_okq (⟨"KinProverModel", "applies", "(I)V"⟩, 31) := ⟨⟨by decide +kernel, by decide +kernel⟩, List.mem_of_getElem? (i := 1009) (by decide +kernel), List.mem_of_getElem? (i := 1073) (by decide +kernel), List.mem_of_getElem? (i := 1074) (by decide +kernel)⟩
theorem lw_p42 : lw_okq (⟨"KinProverModel", "isWithin", "(III)V"⟩, 31) := ⟨⟨by decide +kernel, by decide +kernel⟩, List.mem_of_getElem? (i := 1009) (by decide +kernel), List.mem_of_getElem? (i := 1077) (by decide +kernel), List.mem_of_getElem? (i := 1078) (by decide +kernel)⟩
theorem lw_p43 : lw_okq (⟨"KinProverModel", "weds", "(II)V"⟩, 31) := ⟨⟨by decide +kernel, by decide +kernel⟩, List.mem_of_getElem? (i := 1009) (by decide +kernel), List.mem_of_getElem? (i := 1084) (by decide +kernel), List.mem_of_getElem? (i := 1085) (by decide +kernel)⟩
theorem lw_p44 : lw_okq (⟨"KinProverModel", "lettersOnTape", "()I"⟩, 31) := ⟨⟨by decide +kernel, by decide +kernel⟩, List.mem_of_getElem? (i := 1009) (by decide +kernel), List.mem_of_getElem? (i := 1201) (by decide +kernel), List.mem_of_getElem? (i := 1202) (by decide +kernel)⟩
theorem lw_p45 : lw_okq (⟨"KinProverModel", "isPerson", "(I)Z"⟩, 31) := ⟨⟨by decide +kernel, by decide +kernel⟩, List.mem_of_getElem? (i := 1009) (by decide +kernel), List.mem_of_getElem? (i := 1209) (by decide +kernel), List.mem_of_getElem? (i := 1210) (by decide +kernel)⟩
theorem lw_p46 : lw_okq (⟨"KinProverModel", "reads", "()Z"⟩, 31) := ⟨⟨by decide +kernel, by decide +kernel⟩, List.mem_of_getElem? (i := 1009) (by decide +kernel), List.mem_of_getElem? (i := 1217) (by decide +kernel), List.mem_of_getElem? (i := 1218) (by decide +kernel)⟩
theorem lw_p47 : lw_okq (⟨"KinProverModel", "fails", "(I)V"⟩, 31) := ⟨⟨by decide +kernel, by decide +kernel⟩, List.mem_of_getElem? (i := 1009) (by decide +kernel), List.mem_of_getElem? (i := 1224) (by decide +kernel), List.mem_of_getElem? (i := 1225) (by decide +kernel)⟩
def lw_privs_3 : List (MethodName × Nat) := [(⟨"KinProverModel", "told", "(II)I"⟩, 31), (⟨"KinProverModel", "parents", "()V"⟩, 31), (⟨"KinProverModel", "looks", "()V"⟩, 31), (⟨"KinProverModel", "isOne", "(I)Z"⟩, 31), (⟨"KinProverModel", "sexes", "(I)I"⟩, 31), (⟨"KinProverModel", "sexOf", "(I)I"⟩, 31), (⟨"KinProverModel", "clashes", "(II)V"⟩, 31), (⟨"KinProverModel", "differ", "(IIII)V"⟩, 31), (⟨"KinProverModel", "narrows", "(III)V"⟩, 31), (⟨"KinProverModel", "applies", "(I)V"⟩, 31), (⟨"KinProverModel", "isWithin", "(III)V"⟩, 31), (⟨"KinProverModel", "weds", "(II)V"⟩, 31), (⟨"KinProverModel", "lettersOnTape", "()I"⟩, 31), (⟨"KinProverModel", "isPerson", "(I)Z"⟩, 31), (⟨"KinProverModel", "reads", "()Z"⟩, 31), (⟨"KinProverModel", "fails", "(I)V"⟩, 31)]
theorem lw_r3 : ∀ q ∈ lw_privs_3, lw_okq q := List.forall_mem_cons.mpr ⟨lw_p32, List.forall_mem_cons.mpr ⟨lw_p33, List.forall_mem_cons.mpr ⟨lw_p34, List.forall_mem_cons.mpr ⟨lw_p35, List.forall_mem_cons.mpr ⟨lw_p36, List.forall_mem_cons.mpr ⟨lw_p37, List.forall_mem_cons.mpr ⟨lw_p38, List.forall_mem_cons.mpr ⟨lw_p39, List.forall_mem_cons.mpr ⟨lw_p40, List.forall_mem_cons.mpr ⟨lw_p41, List.forall_mem_cons.mpr ⟨lw_p42, List.forall_mem_cons.mpr ⟨lw_p43, List.forall_mem_cons.mpr ⟨lw_p44, List.forall_mem_cons.mpr ⟨lw_p45, List.forall_mem_cons.mpr ⟨lw_p46, List.forall_mem_cons.mpr ⟨lw_p47, fun _ h => absurd h List.not_mem_nil⟩⟩⟩⟩⟩⟩⟩⟩⟩⟩⟩⟩⟩⟩⟩⟩
theorem lw_p48 : lw_okq (⟨"KinProverModel", "number", "(III)I"⟩, 31) := ⟨⟨by decide +kernel, by decide +kernel⟩, List.mem_of_getElem? (i := 1009) (by decide +kernel), List.mem_of_getElem? (i := 1228) (by decide +kernel), List.mem_of_getElem? (i := 1229) (by decide +kernel)⟩
theorem lw_p49 : lw_okq (⟨"KinProverModel", "comes", "(I)V"⟩, 31) := ⟨⟨by decide +kernel, by decide +kernel⟩, List.mem_of_getElem? (i := 1009) (by decide +kernel), List.mem_of_getElem? (i := 1238) (by decide +kernel), List.mem_of_getElem? (i := 1239) (by decide +kernel)⟩
theorem lw_p50 : lw_okq (⟨"KinProverModel", "isStatement", "(I)Z"⟩, 31) := ⟨⟨by decide +kernel, by decide +kernel⟩, List.mem_of_getElem? (i := 1009) (by decide +kernel), List.mem_of_getElem? (i := 1246) (by decide +kernel), List.mem_of_getElem? (i := 1247) (by decide +kernel)⟩
theorem lw_p51 : lw_okq (⟨"KinProverModel", "writes", "(I)V"⟩, 31) := ⟨⟨by decide +kernel, by decide +kernel⟩, List.mem_of_getElem? (i := 1009) (by decide +kernel), List.mem_of_getElem? (i := 1260) (by decide +kernel), List.mem_of_getElem? (i := 1261) (by decide +kernel)⟩
theorem lw_p52 : lw_okq (⟨"KinProverModel", "writesNumber", "(I)V"⟩, 31) := ⟨⟨by decide +kernel, by decide +kernel⟩, List.mem_of_getElem? (i := 1009) (by decide +kernel), List.mem_of_getElem? (i := 1264) (by decide +kernel), List.mem_of_getElem? (i := 1265) (by decide +kernel)⟩
theorem lw_p53 : lw_okq (⟨"KinProverModel", "lengthOf", "(I)I"⟩, 31) := ⟨⟨by decide +kernel, by decide +kernel⟩, List.mem_of_getElem? (i := 1009) (by decide +kernel), List.mem_of_getElem? (i := 1272) (by decide +kernel), List.mem_of_getElem? (i := 1273) (by decide +kernel)⟩
theorem lw_p54 : lw_okq (⟨"KinProverModel", "letterOf", "(II)I"⟩, 31) := ⟨⟨by decide +kernel, by decide +kernel⟩, List.mem_of_getElem? (i := 1009) (by decide +kernel), List.mem_of_getElem? (i := 1276) (by decide +kernel), List.mem_of_getElem? (i := 1277) (by decide +kernel)⟩
theorem lw_p55 : lw_okq (⟨"KinProverModel", "compares", "(II)I"⟩, 31) := ⟨⟨by decide +kernel, by decide +kernel⟩, List.mem_of_getElem? (i := 1009) (by decide +kernel), List.mem_of_getElem? (i := 1288) (by decide +kernel), List.mem_of_getElem? (i := 1289) (by decide +kernel)⟩
theorem lw_p56 : lw_okq (⟨"KinProverModel", "childrenOf", "(I)I"⟩, 31) := ⟨⟨by decide +kernel, by decide +kernel⟩, List.mem_of_getElem? (i := 1009) (by decide +kernel), List.mem_of_getElem? (i := 1299) (by decide +kernel), List.mem_of_getElem? (i := 1300) (by decide +kernel)⟩
theorem lw_p57 : lw_okq (⟨"KinProverModel", "marriages", "(I)I"⟩, 31) := ⟨⟨by decide +kernel, by decide +kernel⟩, List.mem_of_getElem? (i := 1009) (by decide +kernel), List.mem_of_getElem? (i := 1303) (by decide +kernel), List.mem_of_getElem? (i := 1304) (by decide +kernel)⟩
theorem lw_p58 : lw_okq (⟨"KinProverModel", "ages", "()Z"⟩, 31) := ⟨⟨by decide +kernel, by decide +kernel⟩, List.mem_of_getElem? (i := 1009) (by decide +kernel), List.mem_of_getElem? (i := 1307) (by decide +kernel), List.mem_of_getElem? (i := 1308) (by decide +kernel)⟩
theorem lw_p59 : lw_okq (⟨"KinProverModel", "isEnd", "(III)Z"⟩, 31) := ⟨⟨by decide +kernel, by decide +kernel⟩, List.mem_of_getElem? (i := 1009) (by decide +kernel), List.mem_of_getElem? (i := 1316) (by decide +kernel), List.mem_of_getElem? (i := 1317) (by decide +kernel)⟩
theorem lw_p60 : lw_okq (⟨"KinProverModel", "endOf", "(III)I"⟩, 31) := ⟨⟨by decide +kernel, by decide +kernel⟩, List.mem_of_getElem? (i := 1009) (by decide +kernel), List.mem_of_getElem? (i := 1320) (by decide +kernel), List.mem_of_getElem? (i := 1321) (by decide +kernel)⟩
theorem lw_p61 : lw_okq (⟨"KinProverModel", "rests", "(III)I"⟩, 31) := ⟨⟨by decide +kernel, by decide +kernel⟩, List.mem_of_getElem? (i := 1009) (by decide +kernel), List.mem_of_getElem? (i := 1335) (by decide +kernel), List.mem_of_getElem? (i := 1336) (by decide +kernel)⟩
theorem lw_p62 : lw_okq (⟨"KinProverModel", "widthOf", "(II)I"⟩, 31) := ⟨⟨by decide +kernel, by decide +kernel⟩, List.mem_of_getElem? (i := 1009) (by decide +kernel), List.mem_of_getElem? (i := 1366) (by decide +kernel), List.mem_of_getElem? (i := 1367) (by decide +kernel)⟩
theorem lw_p63 : lw_okq (⟨"KinProverModel", "areTwo", "(II)Z"⟩, 31) := ⟨⟨by decide +kernel, by decide +kernel⟩, List.mem_of_getElem? (i := 1009) (by decide +kernel), List.mem_of_getElem? (i := 1378) (by decide +kernel), List.mem_of_getElem? (i := 1379) (by decide +kernel)⟩
def lw_privs_4 : List (MethodName × Nat) := [(⟨"KinProverModel", "number", "(III)I"⟩, 31), (⟨"KinProverModel", "comes", "(I)V"⟩, 31), (⟨"KinProverModel", "isStatement", "(I)Z"⟩, 31), (⟨"KinProverModel", "writes", "(I)V"⟩, 31), (⟨"KinProverModel", "writesNumber", "(I)V"⟩, 31), (⟨"KinProverModel", "lengthOf", "(I)I"⟩, 31), (⟨"KinProverModel", "letterOf", "(II)I"⟩, 31), (⟨"KinProverModel", "compares", "(II)I"⟩, 31), (⟨"KinProverModel", "childrenOf", "(I)I"⟩, 31), (⟨"KinProverModel", "marriages", "(I)I"⟩, 31), (⟨"KinProverModel", "ages", "()Z"⟩, 31), (⟨"KinProverModel", "isEnd", "(III)Z"⟩, 31), (⟨"KinProverModel", "endOf", "(III)I"⟩, 31), (⟨"KinProverModel", "rests", "(III)I"⟩, 31), (⟨"KinProverModel", "widthOf", "(II)I"⟩, 31), (⟨"KinProverModel", "areTwo", "(II)Z"⟩, 31)]
theorem lw_r4 : ∀ q ∈ lw_privs_4, lw_okq q := List.forall_mem_cons.mpr ⟨lw_p48, List.forall_mem_cons.mpr ⟨lw_p49, List.forall_mem_cons.mpr ⟨lw_p50, List.forall_mem_cons.mpr ⟨lw_p51, List.forall_mem_cons.mpr ⟨lw_p52, List.forall_mem_cons.mpr ⟨lw_p53, List.forall_mem_cons.mpr ⟨lw_p54, List.forall_mem_cons.mpr ⟨lw_p55, List.forall_mem_cons.mpr ⟨lw_p56, List.forall_mem_cons.mpr ⟨lw_p57, List.forall_mem_cons.mpr ⟨lw_p58, List.forall_mem_cons.mpr ⟨lw_p59, List.forall_mem_cons.mpr ⟨lw_p60, List.forall_mem_cons.mpr ⟨lw_p61, List.forall_mem_cons.mpr ⟨lw_p62, List.forall_mem_cons.mpr ⟨lw_p63, fun _ h => absurd h List.not_mem_nil⟩⟩⟩⟩⟩⟩⟩⟩⟩⟩⟩⟩⟩⟩⟩⟩
theorem lw_p64 : lw_okq (⟨"KinProverModel", "meets", "(II)Z"⟩, 31) := ⟨⟨by decide +kernel, by decide +kernel⟩, List.mem_of_getElem? (i := 1009) (by decide +kernel), List.mem_of_getElem? (i := 1382) (by decide +kernel), List.mem_of_getElem? (i := 1383) (by decide +kernel)⟩
theorem lw_p65 : lw_okq (⟨"KinProverModel", "steps", "(I[I)V"⟩, 31) := ⟨⟨by decide +kernel, by decide +kernel⟩, List.mem_of_getElem? (i := 1009) (by decide +kernel), List.mem_of_getElem? (i := 1386) (by decide +kernel), List.mem_of_getElem? (i := 1387) (by decide +kernel)⟩
theorem lw_p66 : lw_okq (⟨"KinProverModel", "isHalf", "()Z"⟩, 31) := ⟨⟨by decide +kernel, by decide +kernel⟩, List.mem_of_getElem? (i := 1009) (by decide +kernel), List.mem_of_getElem? (i := 1398) (by decide +kernel), List.mem_of_getElem? (i := 1399) (by decide +kernel)⟩
theorem lw_p67 : lw_okq (⟨"KinProverModel", "under", "(I[I)I"⟩, 31) := ⟨⟨by decide +kernel, by decide +kernel⟩, List.mem_of_getElem? (i := 1009) (by decide +kernel), List.mem_of_getElem? (i := 1402) (by decide +kernel), List.mem_of_getElem? (i := 1403) (by decide +kernel)⟩
theorem lw_p68 : lw_okq (⟨"KinProverModel", "marriedTo", "(I)I"⟩, 31) := ⟨⟨by decide +kernel, by decide +kernel⟩, List.mem_of_getElem? (i := 1009) (by decide +kernel), List.mem_of_getElem? (i := 1410) (by decide +kernel), List.mem_of_getElem? (i := 1411) (by decide +kernel)⟩
theorem lw_p69 : lw_okq (⟨"KinProverModel", "writesBy", "(ILjava/lang/String;Ljava/lang/String;Ljava/lang/String;)V"⟩, 31) := ⟨⟨by decide +kernel, by decide +kernel⟩, List.mem_of_getElem? (i := 1009) (by decide +kernel), List.mem_of_getElem? (i := 1417) (by decide +kernel), List.mem_of_getElem? (i := 1418) (by decide +kernel)⟩
theorem lw_p70 : lw_okq (⟨"KinProverModel", "writes", "(Ljava/lang/String;)V"⟩, 31) := ⟨⟨by decide +kernel, by decide +kernel⟩, List.mem_of_getElem? (i := 1009) (by decide +kernel), List.mem_of_getElem? (i := 1421) (by decide +kernel), List.mem_of_getElem? (i := 1422) (by decide +kernel)⟩
theorem lw_p71 : lw_okq (⟨"KinProverModel", "grands", "(I)V"⟩, 31) := ⟨⟨by decide +kernel, by decide +kernel⟩, List.mem_of_getElem? (i := 1009) (by decide +kernel), List.mem_of_getElem? (i := 1429) (by decide +kernel), List.mem_of_getElem? (i := 1430) (by decide +kernel)⟩
theorem lw_p72 : lw_okq (⟨"KinProverModel", "orders", "()I"⟩, 31) := ⟨⟨by decide +kernel, by decide +kernel⟩, List.mem_of_getElem? (i := 1009) (by decide +kernel), List.mem_of_getElem? (i := 1472) (by decide +kernel), List.mem_of_getElem? (i := 1473) (by decide +kernel)⟩
theorem lw_p73 : lw_okq (⟨"KinProverModel", "isBornAhead", "(II)Z"⟩, 31) := ⟨⟨by decide +kernel, by decide +kernel⟩, List.mem_of_getElem? (i := 1009) (by decide +kernel), List.mem_of_getElem? (i := 1476) (by decide +kernel), List.mem_of_getElem? (i := 1477) (by decide +kernel)⟩
def lw_privs_5 : List (MethodName × Nat) := [(⟨"KinProverModel", "meets", "(II)Z"⟩, 31), (⟨"KinProverModel", "steps", "(I[I)V"⟩, 31), (⟨"KinProverModel", "isHalf", "()Z"⟩, 31), (⟨"KinProverModel", "under", "(I[I)I"⟩, 31), (⟨"KinProverModel", "marriedTo", "(I)I"⟩, 31), (⟨"KinProverModel", "writesBy", "(ILjava/lang/String;Ljava/lang/String;Ljava/lang/String;)V"⟩, 31), (⟨"KinProverModel", "writes", "(Ljava/lang/String;)V"⟩, 31), (⟨"KinProverModel", "grands", "(I)V"⟩, 31), (⟨"KinProverModel", "orders", "()I"⟩, 31), (⟨"KinProverModel", "isBornAhead", "(II)Z"⟩, 31)]
theorem lw_r5 : ∀ q ∈ lw_privs_5, lw_okq q := List.forall_mem_cons.mpr ⟨lw_p64, List.forall_mem_cons.mpr ⟨lw_p65, List.forall_mem_cons.mpr ⟨lw_p66, List.forall_mem_cons.mpr ⟨lw_p67, List.forall_mem_cons.mpr ⟨lw_p68, List.forall_mem_cons.mpr ⟨lw_p69, List.forall_mem_cons.mpr ⟨lw_p70, List.forall_mem_cons.mpr ⟨lw_p71, List.forall_mem_cons.mpr ⟨lw_p72, List.forall_mem_cons.mpr ⟨lw_p73, fun _ h => absurd h List.not_mem_nil⟩⟩⟩⟩⟩⟩⟩⟩⟩⟩
def lw_privs : List (MethodName × Nat) := lw_privs_1 ++ (lw_privs_2 ++ (lw_privs_3 ++ (lw_privs_4 ++ (lw_privs_5))))
def lw_tbl : List Cond := k2_sels lw_privs ++ tables_1
theorem lw_privs_ok : ∀ q ∈ lw_privs, lw_okq q := by
  show ∀ q ∈ lw_privs_1 ++ (lw_privs_2 ++ (lw_privs_3 ++ (lw_privs_4 ++ (lw_privs_5)))), lw_okq q
  exact List.forall_mem_append.mpr ⟨lw_r1, List.forall_mem_append.mpr ⟨lw_r2, List.forall_mem_append.mpr ⟨lw_r3, List.forall_mem_append.mpr ⟨lw_r4, lw_r5⟩⟩⟩⟩
def RX0 : String := "KinProver$Book"
def TX0 : u_T := fun k => match k with
  | 0 => ("KinProver$Book", "persons", "I", false)
  | 1 => ("KinProver$Book", "statements", "I", false)
  | 2 => ("KinProver$Book", "names", "[[B", true)
  | 3 => ("KinProver$Book", "nameLengths", "[I", true)
  | 4 => ("KinProver$Book", "sexes", "[I", true)
  | 5 => ("KinProver$Book", "sorts", "[I", true)
  | 6 => ("KinProver$Book", "firsts", "[I", true)
  | 7 => ("KinProver$Book", "seconds", "[I", true)
  | 8 => ("KinProver$Book", "lows", "[I", true)
  | 9 => ("KinProver$Book", "highs", "[I", true)
  | _ => ("KinProver$Book", "lives", "[I", true)
def tyX0 : Nat → FieldType := fun k => match k with
  | 0 => .int
  | 1 => .int
  | 2 => .array (.array .byte)
  | 3 => .array .int
  | 4 => .array .int
  | 5 => .array .int
  | 6 => .array .int
  | 7 => .array .int
  | 8 => .array .int
  | 9 => .array .int
  | _ => .array .int
theorem nmX0 : ∀ a, a < 11 → ∀ b, b < 11 → a ≠ b → (TX0 a).2.1 ≠ (TX0 b).2.1 := by decide +kernel
theorem tyX0_ok : ∀ k, k < 11 → parseFieldDescriptor (TX0 k).2.2.1 = some (tyX0 k) := by decide +kernel
abbrev cX0_init : ByteArray := prog_2_method_1_code
def yX0_init : MethodName := ⟨RX0, "<init>", "()V"⟩
abbrev cX0_isPerson : ByteArray := prog_2_method_2_code
def yX0_isPerson : MethodName := ⟨RX0, "isPerson", "(I)Z"⟩
abbrev cX0_isStatement : ByteArray := prog_2_method_3_code
def yX0_isStatement : MethodName := ⟨RX0, "isStatement", "(I)Z"⟩
abbrev cX0_addPerson : ByteArray := prog_2_method_4_code
def yX0_addPerson : MethodName := ⟨RX0, "addPerson", "(LKinProver$Text;I)V"⟩
abbrev cX0_write : ByteArray := prog_2_method_5_code
def yX0_write : MethodName := ⟨RX0, "write", "(ILKinProver$Reader;I)V"⟩
abbrev cX0_copyFrom : ByteArray := prog_2_method_6_code
def yX0_copyFrom : MethodName := ⟨RX0, "copyFrom", "(LKinProver$Book;)V"⟩
abbrev cX0_spellInto : ByteArray := prog_2_method_7_code
def yX0_spellInto : MethodName := ⟨RX0, "spellInto", "(LKinProver$Text;I)V"⟩
abbrev cX0_spellNumber : ByteArray := prog_2_method_8_code
def yX0_spellNumber : MethodName := ⟨RX0, "spellNumber", "(LKinProver$Text;I)V"⟩
abbrev cX0_findNamed : ByteArray := prog_2_method_9_code
def yX0_findNamed : MethodName := ⟨RX0, "findNamed", "(LKinProver$Text;I)I"⟩
abbrev cX0_isNamed : ByteArray := prog_2_method_10_code
def yX0_isNamed : MethodName := ⟨RX0, "isNamed", "(ILKinProver$Text;)Z"⟩
abbrev cX0_compareNames : ByteArray := prog_2_method_11_code
def yX0_compareNames : MethodName := ⟨RX0, "compareNames", "(II)I"⟩
abbrev cX0_placeByName : ByteArray := prog_2_method_12_code
def yX0_placeByName : MethodName := ⟨RX0, "placeByName", "(I)I"⟩
abbrev cX0_unlikeNames : ByteArray := prog_2_method_13_code
def yX0_unlikeNames : MethodName := ⟨RX0, "unlikeNames", "()I"⟩
def RX1 : String := "KinProver$Folk"
def TX1 : u_T := fun k => match k with
  | 0 => ("KinProver$Folk", "count", "I", false)
  | 1 => ("KinProver$Folk", "all", "I", false)
  | 2 => ("KinProver$Folk", "group", "[I", true)
  | 3 => ("KinProver$Folk", "sizes", "[I", true)
  | 4 => ("KinProver$Folk", "sexes", "[I", true)
  | 5 => ("KinProver$Folk", "mothers", "[I", true)
  | 6 => ("KinProver$Folk", "fathers", "[I", true)
  | 7 => ("KinProver$Folk", "parents", "[I", true)
  | 8 => ("KinProver$Folk", "above", "[I", true)
  | 9 => ("KinProver$Folk", "spouses", "[I", true)
  | 10 => ("KinProver$Folk", "marriages", "[I", true)
  | 11 => ("KinProver$Folk", "generations", "[I", true)
  | _ => ("KinProver$Folk", "ring", "Z", false)
def tyX1 : Nat → FieldType := fun k => match k with
  | 0 => .int
  | 1 => .int
  | 2 => .array .int
  | 3 => .array .int
  | 4 => .array .int
  | 5 => .array .int
  | 6 => .array .int
  | 7 => .array .int
  | 8 => .array .int
  | 9 => .array .int
  | 10 => .array .int
  | 11 => .array .int
  | _ => .boolean
theorem nmX1 : ∀ a, a < 13 → ∀ b, b < 13 → a ≠ b → (TX1 a).2.1 ≠ (TX1 b).2.1 := by decide +kernel
theorem tyX1_ok : ∀ k, k < 13 → parseFieldDescriptor (TX1 k).2.2.1 = some (tyX1 k) := by decide +kernel
abbrev cX1_init : ByteArray := prog_3_method_1_code
def yX1_init : MethodName := ⟨RX1, "<init>", "()V"⟩
abbrev cX1_has : ByteArray := prog_3_method_2_code
def yX1_has : MethodName := ⟨RX1, "has", "(II)Z"⟩
abbrev cX1_least : ByteArray := prog_3_method_3_code
def yX1_least : MethodName := ⟨RX1, "least", "(I)I"⟩
abbrev cX1_gather : ByteArray := prog_3_method_4_code
def yX1_gather : MethodName := ⟨RX1, "gather", "(LKinProver$Book;[II)V"⟩
abbrev cX1_wipe : ByteArray := prog_3_method_5_code
def yX1_wipe : MethodName := ⟨RX1, "wipe", "()V"⟩
abbrev cX1_joinSames : ByteArray := prog_3_method_6_code
def yX1_joinSames : MethodName := ⟨RX1, "joinSames", "(LKinProver$Book;[II)V"⟩
abbrev cX1_rename : ByteArray := prog_3_method_7_code
def yX1_rename : MethodName := ⟨RX1, "rename", "(III)V"⟩
abbrev cX1_hear : ByteArray := prog_3_method_8_code
def yX1_hear : MethodName := ⟨RX1, "hear", "(LKinProver$Book;I)V"⟩
abbrev cX1_climb : ByteArray := prog_3_method_9_code
def yX1_climb : MethodName := ⟨RX1, "climb", "()V"⟩
abbrev cX1_generationOver : ByteArray := prog_3_method_10_code
def yX1_generationOver : MethodName := ⟨RX1, "generationOver", "(I)I"⟩
abbrev cX1_leastRing : ByteArray := prog_3_method_11_code
def yX1_leastRing : MethodName := ⟨RX1, "leastRing", "()I"⟩
abbrev cX1_leastOfBothSexes : ByteArray := prog_3_method_12_code
def yX1_leastOfBothSexes : MethodName := ⟨RX1, "leastOfBothSexes", "()I"⟩
abbrev cX1_leastOfUnlikeParents : ByteArray := prog_3_method_13_code
def yX1_leastOfUnlikeParents : MethodName := ⟨RX1, "leastOfUnlikeParents", "()I"⟩
abbrev cX1_tell : ByteArray := prog_3_method_14_code
def yX1_tell : MethodName := ⟨RX1, "tell", "(II)I"⟩
abbrev cX1_children : ByteArray := prog_3_method_15_code
def yX1_children : MethodName := ⟨RX1, "children", "(I)I"⟩
abbrev cX1_below : ByteArray := prog_3_method_16_code
def yX1_below : MethodName := ⟨RX1, "below", "(I)I"⟩
abbrev cX1_holders : ByteArray := prog_3_method_17_code
def yX1_holders : MethodName := ⟨RX1, "holders", "([II)I"⟩
abbrev cX1_siblings : ByteArray := prog_3_method_18_code
def yX1_siblings : MethodName := ⟨RX1, "siblings", "(I)I"⟩
abbrev cX1_areMarried : ByteArray := prog_3_method_19_code
def yX1_areMarried : MethodName := ⟨RX1, "areMarried", "(II)Z"⟩
abbrev cX1_haveAlikeParents : ByteArray := prog_3_method_20_code
def yX1_haveAlikeParents : MethodName := ⟨RX1, "haveAlikeParents", "(II)Z"⟩
abbrev cX1_greatestGeneration : ByteArray := prog_3_method_21_code
def yX1_greatestGeneration : MethodName := ⟨RX1, "greatestGeneration", "()I"⟩
def RX2 : String := "KinProver$Lists"
def TX2 : u_T := fun k => match k with
  | 0 => ("KinProver$Lists", "rows", "[[I", true)
  | _ => ("KinProver$Lists", "sizes", "[I", true)
def tyX2 : Nat → FieldType := fun k => match k with
  | 0 => .array (.array .int)
  | _ => .array .int
theorem nmX2 : ∀ a, a < 2 → ∀ b, b < 2 → a ≠ b → (TX2 a).2.1 ≠ (TX2 b).2.1 := by decide +kernel
theorem tyX2_ok : ∀ k, k < 2 → parseFieldDescriptor (TX2 k).2.2.1 = some (tyX2 k) := by decide +kernel
abbrev cX2_init : ByteArray := prog_4_method_1_code
def yX2_init : MethodName := ⟨RX2, "<init>", "()V"⟩
abbrev cX2_isList : ByteArray := prog_4_method_2_code
def yX2_isList : MethodName := ⟨RX2, "isList", "(I)Z"⟩
abbrev cX2_begin : ByteArray := prog_4_method_3_code
def yX2_begin : MethodName := ⟨RX2, "begin", "(II)V"⟩
abbrev cX2_hasPlace : ByteArray := prog_4_method_4_code
def yX2_hasPlace : MethodName := ⟨RX2, "hasPlace", "(III)Z"⟩
def RX3 : String := "KinProver$Ranges"
def TX3 : u_T := fun k => match k with
  | 0 => ("KinProver$Ranges", "years", "[I", true)
  | 1 => ("KinProver$Ranges", "restRules", "[I", true)
  | 2 => ("KinProver$Ranges", "restEnds", "[I", true)
  | 3 => ("KinProver$Ranges", "xs", "[I", true)
  | 4 => ("KinProver$Ranges", "ys", "[I", true)
  | 5 => ("KinProver$Ranges", "froms", "[I", true)
  | 6 => ("KinProver$Ranges", "tos", "[I", true)
  | 7 => ("KinProver$Ranges", "rules", "[I", true)
  | 8 => ("KinProver$Ranges", "count", "I", false)
  | 9 => ("KinProver$Ranges", "rounds", "I", false)
  | 10 => ("KinProver$Ranges", "empty", "I", false)
  | _ => ("KinProver$Ranges", "changed", "Z", false)
def tyX3 : Nat → FieldType := fun k => match k with
  | 0 => .array .int
  | 1 => .array .int
  | 2 => .array .int
  | 3 => .array .int
  | 4 => .array .int
  | 5 => .array .int
  | 6 => .array .int
  | 7 => .array .int
  | 8 => .int
  | 9 => .int
  | 10 => .int
  | _ => .boolean
theorem nmX3 : ∀ a, a < 12 → ∀ b, b < 12 → a ≠ b → (TX3 a).2.1 ≠ (TX3 b).2.1 := by decide +kernel
theorem tyX3_ok : ∀ k, k < 12 → parseFieldDescriptor (TX3 k).2.2.1 = some (tyX3 k) := by decide +kernel
abbrev cX3_init : ByteArray := prog_5_method_1_code
def yX3_init : MethodName := ⟨RX3, "<init>", "()V"⟩
abbrev cX3_wipe : ByteArray := prog_5_method_2_code
def yX3_wipe : MethodName := ⟨RX3, "wipe", "()V"⟩
abbrev cX3_takeLife : ByteArray := prog_5_method_3_code
def yX3_takeLife : MethodName := ⟨RX3, "takeLife", "(I)V"⟩
abbrev cX3_takeStatement : ByteArray := prog_5_method_4_code
def yX3_takeStatement : MethodName := ⟨RX3, "takeStatement", "(LKinProver$Book;LKinProver$Folk;I)V"⟩
abbrev cX3_addMarriedOne : ByteArray := prog_5_method_5_code
def yX3_addMarriedOne : MethodName := ⟨RX3, "addMarriedOne", "(II)V"⟩
abbrev cX3_born : ByteArray := prog_5_method_6_code
def yX3_born : MethodName := ⟨RX3, "born", "(I)I"⟩
abbrev cX3_died : ByteArray := prog_5_method_7_code
def yX3_died : MethodName := ⟨RX3, "died", "(I)I"⟩
abbrev cX3_addIn : ByteArray := prog_5_method_8_code
def yX3_addIn : MethodName := ⟨RX3, "addIn", "(IIII)V"⟩
abbrev cX3_addLess : ByteArray := prog_5_method_9_code
def yX3_addLess : MethodName := ⟨RX3, "addLess", "(IIIII)V"⟩
abbrev cX3_narrow : ByteArray := prog_5_method_10_code
def yX3_narrow : MethodName := ⟨RX3, "narrow", "(I)Z"⟩
abbrev cX3_apply : ByteArray := prog_5_method_11_code
def yX3_apply : MethodName := ⟨RX3, "apply", "(I)V"⟩
abbrev cX3_raise : ByteArray := prog_5_method_12_code
def yX3_raise : MethodName := ⟨RX3, "raise", "(IIII)V"⟩
abbrev cX3_lower : ByteArray := prog_5_method_13_code
def yX3_lower : MethodName := ⟨RX3, "lower", "(IIII)V"⟩
abbrev cX3_change : ByteArray := prog_5_method_14_code
def yX3_change : MethodName := ⟨RX3, "change", "(IIII)V"⟩
abbrev cX3_follow : ByteArray := prog_5_method_15_code
def yX3_follow : MethodName := ⟨RX3, "follow", "(II)I"⟩
abbrev cX3_tellRest : ByteArray := prog_5_method_16_code
def yX3_tellRest : MethodName := ⟨RX3, "tellRest", "(III)I"⟩
abbrev cX3_tellRange : ByteArray := prog_5_method_17_code
def yX3_tellRange : MethodName := ⟨RX3, "tellRange", "(I)I"⟩
abbrev cX3_proveInto : ByteArray := prog_5_method_18_code
def yX3_proveInto : MethodName := ⟨RX3, "proveInto", "(LKinProver$Text;I)V"⟩
def RX4 : String := "KinProver$Reader"
def TX4 : u_T := fun k => match k with
  | 0 => ("KinProver$Reader", "sort", "I", false)
  | 1 => ("KinProver$Reader", "first", "I", false)
  | 2 => ("KinProver$Reader", "second", "I", false)
  | 3 => ("KinProver$Reader", "low", "I", false)
  | 4 => ("KinProver$Reader", "high", "I", false)
  | 5 => ("KinProver$Reader", "fault", "I", false)
  | 6 => ("KinProver$Reader", "place", "I", false)
  | _ => ("KinProver$Reader", "begin", "I", false)
def tyX4 : Nat → FieldType := fun k => match k with
  | 0 => .int
  | 1 => .int
  | 2 => .int
  | 3 => .int
  | 4 => .int
  | 5 => .int
  | 6 => .int
  | _ => .int
theorem nmX4 : ∀ a, a < 8 → ∀ b, b < 8 → a ≠ b → (TX4 a).2.1 ≠ (TX4 b).2.1 := by decide +kernel
theorem tyX4_ok : ∀ k, k < 8 → parseFieldDescriptor (TX4 k).2.2.1 = some (tyX4 k) := by decide +kernel
abbrev cX4_init : ByteArray := prog_6_method_1_code
def yX4_init : MethodName := ⟨RX4, "<init>", "()V"⟩
abbrev cX4_tellsTwo : ByteArray := prog_6_method_2_code
def yX4_tellsTwo : MethodName := ⟨RX4, "tellsTwo", "(I)Z"⟩
abbrev cX4_tellsLow : ByteArray := prog_6_method_3_code
def yX4_tellsLow : MethodName := ⟨RX4, "tellsLow", "(I)Z"⟩
abbrev cX4_tellsHigh : ByteArray := prog_6_method_4_code
def yX4_tellsHigh : MethodName := ⟨RX4, "tellsHigh", "(I)Z"⟩
abbrev cX4_letterOf : ByteArray := prog_6_method_5_code
def yX4_letterOf : MethodName := ⟨RX4, "letterOf", "(I)I"⟩
abbrev cX4_makeSame : ByteArray := prog_6_method_6_code
def yX4_makeSame : MethodName := ⟨RX4, "makeSame", "(II)V"⟩
abbrev cX4_reads : ByteArray := prog_6_method_7_code
def yX4_reads : MethodName := ⟨RX4, "reads", "(LKinProver$Text;I)Z"⟩
abbrev cX4_sortOf : ByteArray := prog_6_method_8_code
def yX4_sortOf : MethodName := ⟨RX4, "sortOf", "(I)I"⟩
abbrev cX4_takeNumber : ByteArray := prog_6_method_9_code
def yX4_takeNumber : MethodName := ⟨RX4, "takeNumber", "(LKinProver$Text;II)I"⟩
def RX5 : String := "KinProver$Text"
def TX5 : u_T := fun k => match k with
  | 0 => ("KinProver$Text", "bytes", "[B", true)
  | _ => ("KinProver$Text", "length", "I", false)
def tyX5 : Nat → FieldType := fun k => match k with
  | 0 => .array .byte
  | _ => .int
theorem nmX5 : ∀ a, a < 2 → ∀ b, b < 2 → a ≠ b → (TX5 a).2.1 ≠ (TX5 b).2.1 := by decide +kernel
theorem tyX5_ok : ∀ k, k < 2 → parseFieldDescriptor (TX5 k).2.2.1 = some (tyX5 k) := by decide +kernel
abbrev cX5_init : ByteArray := prog_7_method_1_code
def yX5_init : MethodName := ⟨RX5, "<init>", "(I)V"⟩
abbrev cX5_wipe : ByteArray := prog_7_method_2_code
def yX5_wipe : MethodName := ⟨RX5, "wipe", "()V"⟩
abbrev cX5_put : ByteArray := prog_7_method_3_code
def yX5_put : MethodName := ⟨RX5, "put", "(I)V"⟩
abbrev cX5_putAll : ByteArray := prog_7_method_4_code
def yX5_putAll : MethodName := ⟨RX5, "putAll", "(Ljava/lang/String;)V"⟩
abbrev cX5_putNumber : ByteArray := prog_7_method_5_code
def yX5_putNumber : MethodName := ⟨RX5, "putNumber", "(I)V"⟩
abbrev cX5_at : ByteArray := prog_7_method_6_code
def yX5_at : MethodName := ⟨RX5, "at", "(I)I"⟩
abbrev cX5_isFigure : ByteArray := prog_7_method_7_code
def yX5_isFigure : MethodName := ⟨RX5, "isFigure", "(I)Z"⟩
abbrev cX5_nameFault : ByteArray := prog_7_method_8_code
def yX5_nameFault : MethodName := ⟨RX5, "nameFault", "()I"⟩
def RX6 : String := "KinProver$Titles"
def TX6 : u_T := fun k => match k with
  | _ => ("", "", "", false)
def tyX6 : Nat → FieldType := fun k => match k with
  | _ => .int
theorem nmX6 : ∀ a, a < 0 → ∀ b, b < 0 → a ≠ b → (TX6 a).2.1 ≠ (TX6 b).2.1 := by decide +kernel
theorem tyX6_ok : ∀ k, k < 0 → parseFieldDescriptor (TX6 k).2.2.1 = some (tyX6 k) := by decide +kernel
abbrev cX6_putKin : ByteArray := prog_8_method_2_code
def yX6_putKin : MethodName := ⟨RX6, "putKin", "(LKinProver$Text;LKinProver$Ways;ZI)V"⟩
abbrev cX6_putBySex : ByteArray := prog_8_method_3_code
def yX6_putBySex : MethodName := ⟨RX6, "putBySex", "(LKinProver$Text;ILjava/lang/String;Ljava/lang/String;Ljava/lang/String;)V"⟩
abbrev cX6_putGrand : ByteArray := prog_8_method_4_code
def yX6_putGrand : MethodName := ⟨RX6, "putGrand", "(LKinProver$Text;I)V"⟩
abbrev cX6_putCousin : ByteArray := prog_8_method_5_code
def yX6_putCousin : MethodName := ⟨RX6, "putCousin", "(LKinProver$Text;II)V"⟩
def RX7 : String := "KinProver$Ways"
def TX7 : u_T := fun k => match k with
  | 0 => ("KinProver$Ways", "stepsA", "[I", true)
  | 1 => ("KinProver$Ways", "stepsB", "[I", true)
  | 2 => ("KinProver$Ways", "common", "I", false)
  | 3 => ("KinProver$Ways", "up", "I", false)
  | _ => ("KinProver$Ways", "down", "I", false)
def tyX7 : Nat → FieldType := fun k => match k with
  | 0 => .array .int
  | 1 => .array .int
  | 2 => .int
  | 3 => .int
  | _ => .int
theorem nmX7 : ∀ a, a < 5 → ∀ b, b < 5 → a ≠ b → (TX7 a).2.1 ≠ (TX7 b).2.1 := by decide +kernel
theorem tyX7_ok : ∀ k, k < 5 → parseFieldDescriptor (TX7 k).2.2.1 = some (tyX7 k) := by decide +kernel
abbrev cX7_init : ByteArray := prog_9_method_1_code
def yX7_init : MethodName := ⟨RX7, "<init>", "()V"⟩
abbrev cX7_seek : ByteArray := prog_9_method_2_code
def yX7_seek : MethodName := ⟨RX7, "seek", "(LKinProver$Folk;II)V"⟩
abbrev cX7_isNearer : ByteArray := prog_9_method_3_code
def yX7_isNearer : MethodName := ⟨RX7, "isNearer", "(I)Z"⟩
abbrev cX7_count : ByteArray := prog_9_method_4_code
def yX7_count : MethodName := ⟨RX7, "count", "(LKinProver$Folk;I[I)V"⟩
abbrev cX7_descend : ByteArray := prog_9_method_5_code
def yX7_descend : MethodName := ⟨RX7, "descend", "(LKinProver$Folk;[II)I"⟩
abbrev cX7_stepDown : ByteArray := prog_9_method_6_code
def yX7_stepDown : MethodName := ⟨RX7, "stepDown", "(LKinProver$Folk;[II)I"⟩
abbrev cX7_stop : ByteArray := prog_9_method_7_code
def yX7_stop : MethodName := ⟨RX7, "stop", "(LKinProver$Folk;I)I"⟩
abbrev cX7_isHalf : ByteArray := prog_9_method_8_code
def yX7_isHalf : MethodName := ⟨RX7, "isHalf", "(LKinProver$Folk;)Z"⟩
def RX8 : String := "KinProver$World"
def TX8 : u_T := fun k => match k with
  | 0 => ("KinProver$World", "said", "[I", true)
  | 1 => ("KinProver$World", "saidCount", "I", false)
  | 2 => ("KinProver$World", "folk", "LKinProver$Folk;", true)
  | 3 => ("KinProver$World", "ranges", "LKinProver$Ranges;", true)
  | 4 => ("KinProver$World", "clash", "I", false)
  | 5 => ("KinProver$World", "clashing", "I", false)
  | _ => ("KinProver$World", "order", "[I", true)
def tyX8 : Nat → FieldType := fun k => match k with
  | 0 => .array .int
  | 1 => .int
  | 2 => .object "KinProver$Folk"
  | 3 => .object "KinProver$Ranges"
  | 4 => .int
  | 5 => .int
  | _ => .array .int
theorem nmX8 : ∀ a, a < 7 → ∀ b, b < 7 → a ≠ b → (TX8 a).2.1 ≠ (TX8 b).2.1 := by decide +kernel
theorem tyX8_ok : ∀ k, k < 7 → parseFieldDescriptor (TX8 k).2.2.1 = some (tyX8 k) := by decide +kernel
abbrev cX8_init : ByteArray := prog_10_method_1_code
def yX8_init : MethodName := ⟨RX8, "<init>", "()V"⟩
abbrev cX8_work : ByteArray := prog_10_method_2_code
def yX8_work : MethodName := ⟨RX8, "work", "(LKinProver$Book;III)V"⟩
abbrev cX8_note : ByteArray := prog_10_method_3_code
def yX8_note : MethodName := ⟨RX8, "note", "(II)V"⟩
abbrev cX8_takeRules : ByteArray := prog_10_method_4_code
def yX8_takeRules : MethodName := ⟨RX8, "takeRules", "(LKinProver$Book;)V"⟩
abbrev cX8_tellClashing : ByteArray := prog_10_method_5_code
def yX8_tellClashing : MethodName := ⟨RX8, "tellClashing", "()I"⟩
abbrev cX8_sortPeople : ByteArray := prog_10_method_6_code
def yX8_sortPeople : MethodName := ⟨RX8, "sortPeople", "()V"⟩
abbrev cX8_isBornAhead : ByteArray := prog_10_method_7_code
def yX8_isBornAhead : MethodName := ⟨RX8, "isBornAhead", "(II)Z"⟩
def RX9 : String := "KinProver"
def TX9 : u_T := fun k => match k with
  | 0 => ("KinProver", "book", "LKinProver$Book;", true)
  | 1 => ("KinProver", "kept", "LKinProver$Book;", true)
  | 2 => ("KinProver", "keeping", "Z", false)
  | 3 => ("KinProver", "tape", "LKinProver$Text;", true)
  | 4 => ("KinProver", "paper", "LKinProver$Text;", true)
  | 5 => ("KinProver", "reader", "LKinProver$Reader;", true)
  | 6 => ("KinProver", "now", "LKinProver$World;", true)
  | 7 => ("KinProver", "thought", "LKinProver$World;", true)
  | 8 => ("KinProver", "settled", "Z", false)
  | 9 => ("KinProver", "culprits", "[I", true)
  | 10 => ("KinProver", "culpritCount", "I", false)
  | 11 => ("KinProver", "culpritsSettled", "Z", false)
  | 12 => ("KinProver", "ways", "LKinProver$Ways;", true)
  | _ => ("KinProver", "lists", "LKinProver$Lists;", true)
def tyX9 : Nat → FieldType := fun k => match k with
  | 0 => .object "KinProver$Book"
  | 1 => .object "KinProver$Book"
  | 2 => .boolean
  | 3 => .object "KinProver$Text"
  | 4 => .object "KinProver$Text"
  | 5 => .object "KinProver$Reader"
  | 6 => .object "KinProver$World"
  | 7 => .object "KinProver$World"
  | 8 => .boolean
  | 9 => .array .int
  | 10 => .int
  | 11 => .boolean
  | 12 => .object "KinProver$Ways"
  | _ => .object "KinProver$Lists"
theorem nmX9 : ∀ a, a < 14 → ∀ b, b < 14 → a ≠ b → (TX9 a).2.1 ≠ (TX9 b).2.1 := by decide +kernel
theorem tyX9_ok : ∀ k, k < 14 → parseFieldDescriptor (TX9 k).2.2.1 = some (tyX9 k) := by decide +kernel
abbrev cX9_init : ByteArray := prog_1_method_1_code
def yX9_init : MethodName := ⟨RX9, "<init>", "()V"⟩
abbrev cX9_feed : ByteArray := prog_1_method_2_code
def yX9_feed : MethodName := ⟨RX9, "feed", "(I)I"⟩
abbrev cX9_clear : ByteArray := prog_1_method_3_code
def yX9_clear : MethodName := ⟨RX9, "clear", "()I"⟩
abbrev cX9_paper : ByteArray := prog_1_method_4_code
def yX9_paper : MethodName := ⟨RX9, "paper", "(I)I"⟩
abbrev cX9_person : ByteArray := prog_1_method_5_code
def yX9_person : MethodName := ⟨RX9, "person", "(I)I"⟩
abbrev cX9_sex : ByteArray := prog_1_method_6_code
def yX9_sex : MethodName := ⟨RX9, "sex", "(II)I"⟩
abbrev cX9_state : ByteArray := prog_1_method_7_code
def yX9_state : MethodName := ⟨RX9, "state", "(I)I"⟩
abbrev cX9_live : ByteArray := prog_1_method_8_code
def yX9_live : MethodName := ⟨RX9, "live", "(II)I"⟩
abbrev cX9_of : ByteArray := prog_1_method_9_code
def yX9_of : MethodName := ⟨RX9, "of", "(II)I"⟩
abbrev cX9_spell : ByteArray := prog_1_method_10_code
def yX9_spell : MethodName := ⟨RX9, "spell", "(I)I"⟩
abbrev cX9_name : ByteArray := prog_1_method_11_code
def yX9_name : MethodName := ⟨RX9, "name", "(II)I"⟩
abbrev cX9_find : ByteArray := prog_1_method_12_code
def yX9_find : MethodName := ⟨RX9, "find", "(I)I"⟩
abbrev cX9_byName : ByteArray := prog_1_method_13_code
def yX9_byName : MethodName := ⟨RX9, "byName", "(I)I"⟩
abbrev cX9_people : ByteArray := prog_1_method_14_code
def yX9_people : MethodName := ⟨RX9, "people", "(II)I"⟩
abbrev cX9_end : ByteArray := prog_1_method_15_code
def yX9_end : MethodName := ⟨RX9, "end", "(III)I"⟩
abbrev cX9_year : ByteArray := prog_1_method_16_code
def yX9_year : MethodName := ⟨RX9, "year", "(II)I"⟩
abbrev cX9_proof : ByteArray := prog_1_method_17_code
def yX9_proof : MethodName := ⟨RX9, "proof", "(IIIII)I"⟩
abbrev cX9_prove : ByteArray := prog_1_method_18_code
def yX9_prove : MethodName := ⟨RX9, "prove", "(III)I"⟩
abbrev cX9_clash : ByteArray := prog_1_method_19_code
def yX9_clash : MethodName := ⟨RX9, "clash", "(I)I"⟩
abbrev cX9_why : ByteArray := prog_1_method_20_code
def yX9_why : MethodName := ⟨RX9, "why", "(III)I"⟩
abbrev cX9_culprit : ByteArray := prog_1_method_21_code
def yX9_culprit : MethodName := ⟨RX9, "culprit", "(I)I"⟩
abbrev cX9_same : ByteArray := prog_1_method_22_code
def yX9_same : MethodName := ⟨RX9, "same", "(II)I"⟩
abbrev cX9_narrows : ByteArray := prog_1_method_23_code
def yX9_narrows : MethodName := ⟨RX9, "narrows", "(II)I"⟩
abbrev cX9_rounds : ByteArray := prog_1_method_24_code
def yX9_rounds : MethodName := ⟨RX9, "rounds", "()I"⟩
abbrev cX9_kin : ByteArray := prog_1_method_25_code
def yX9_kin : MethodName := ⟨RX9, "kin", "(II)I"⟩
abbrev cX9_common : ByteArray := prog_1_method_26_code
def yX9_common : MethodName := ⟨RX9, "common", "(II)I"⟩
abbrev cX9_half : ByteArray := prog_1_method_27_code
def yX9_half : MethodName := ⟨RX9, "half", "(II)I"⟩
abbrev cX9_title : ByteArray := prog_1_method_28_code
def yX9_title : MethodName := ⟨RX9, "title", "(II)I"⟩
abbrev cX9_path : ByteArray := prog_1_method_29_code
def yX9_path : MethodName := ⟨RX9, "path", "(III)I"⟩
abbrev cX9_relatives : ByteArray := prog_1_method_30_code
def yX9_relatives : MethodName := ⟨RX9, "relatives", "(II)J"⟩
abbrev cX9_ancestors : ByteArray := prog_1_method_31_code
def yX9_ancestors : MethodName := ⟨RX9, "ancestors", "(I)J"⟩
abbrev cX9_descendants : ByteArray := prog_1_method_32_code
def yX9_descendants : MethodName := ⟨RX9, "descendants", "(I)J"⟩
abbrev cX9_order : ByteArray := prog_1_method_33_code
def yX9_order : MethodName := ⟨RX9, "order", "(I)I"⟩
abbrev cX9_ahead : ByteArray := prog_1_method_34_code
def yX9_ahead : MethodName := ⟨RX9, "ahead", "(II)I"⟩
abbrev cX9_told : ByteArray := prog_1_method_35_code
def yX9_told : MethodName := ⟨RX9, "told", "(I)I"⟩
abbrev cX9_list : ByteArray := prog_1_method_36_code
def yX9_list : MethodName := ⟨RX9, "list", "(II)I"⟩
abbrev cX9_set : ByteArray := prog_1_method_37_code
def yX9_set : MethodName := ⟨RX9, "set", "(III)I"⟩
abbrev cX9_get : ByteArray := prog_1_method_38_code
def yX9_get : MethodName := ⟨RX9, "get", "(II)J"⟩
abbrev cX9_lay : ByteArray := prog_1_method_39_code
def yX9_lay : MethodName := ⟨RX9, "lay", "(II)I"⟩
abbrev cX9_judge : ByteArray := prog_1_method_40_code
def yX9_judge : MethodName := ⟨RX9, "judge", "(II)I"⟩
abbrev cX9_image : ByteArray := prog_1_method_41_code
def yX9_image : MethodName := ⟨RX9, "image", "()I"⟩
abbrev cX9_undo : ByteArray := prog_1_method_42_code
def yX9_undo : MethodName := ⟨RX9, "undo", "()I"⟩
abbrev cX9_isFlag : ByteArray := prog_1_method_43_code
def yX9_isFlag : MethodName := ⟨RX9, "isFlag", "(I)Z"⟩
abbrev cX9_isSex : ByteArray := prog_1_method_44_code
def yX9_isSex : MethodName := ⟨RX9, "isSex", "(I)Z"⟩
abbrev cX9_isLinkPart : ByteArray := prog_1_method_45_code
def yX9_isLinkPart : MethodName := ⟨RX9, "isLinkPart", "(II)Z"⟩
abbrev cX9_arePersons : ByteArray := prog_1_method_46_code
def yX9_arePersons : MethodName := ⟨RX9, "arePersons", "(II)Z"⟩
abbrev cX9_isEnd : ByteArray := prog_1_method_47_code
def yX9_isEnd : MethodName := ⟨RX9, "isEnd", "(III)Z"⟩
abbrev cX9_personEnd : ByteArray := prog_1_method_48_code
def yX9_personEnd : MethodName := ⟨RX9, "personEnd", "(LKinProver$World;III)I"⟩
abbrev cX9_yearsBetween : ByteArray := prog_1_method_49_code
def yX9_yearsBetween : MethodName := ⟨RX9, "yearsBetween", "(LKinProver$World;II)I"⟩
abbrev cX9_unsettle : ByteArray := prog_1_method_50_code
def yX9_unsettle : MethodName := ⟨RX9, "unsettle", "()V"⟩
abbrev cX9_settle : ByteArray := prog_1_method_51_code
def yX9_settle : MethodName := ⟨RX9, "settle", "()V"⟩
abbrev cX9_settleCulprits : ByteArray := prog_1_method_52_code
def yX9_settleCulprits : MethodName := ⟨RX9, "settleCulprits", "()V"⟩
abbrev cX9_workOneMore : ByteArray := prog_1_method_53_code
def yX9_workOneMore : MethodName := ⟨RX9, "workOneMore", "()V"⟩
abbrev cX9_seekWays : ByteArray := prog_1_method_54_code
def yX9_seekWays : MethodName := ⟨RX9, "seekWays", "(II)V"⟩
def RX10 : String := "KinProverModel"
def TX10 : u_T := fun k => match k with
  | 0 => ("KinProverModel", "s", "[I", true)
  | 1 => ("KinProverModel", "image", "[I", true)
  | 2 => ("KinProverModel", "isKept", "Z", false)
  | 3 => ("KinProverModel", "tape", "[I", true)
  | 4 => ("KinProverModel", "paper", "[I", true)
  | 5 => ("KinProverModel", "read", "[I", true)
  | 6 => ("KinProverModel", "letters", "I", false)
  | 7 => ("KinProverModel", "papers", "I", false)
  | 8 => ("KinProverModel", "at", "I", false)
  | 9 => ("KinProverModel", "fault", "I", false)
  | 10 => ("KinProverModel", "one", "[I", true)
  | 11 => ("KinProverModel", "mother", "[I", true)
  | 12 => ("KinProverModel", "father", "[I", true)
  | 13 => ("KinProverModel", "above", "[I", true)
  | 14 => ("KinProverModel", "end", "[I", true)
  | 15 => ("KinProverModel", "rule", "[I", true)
  | 16 => ("KinProverModel", "from", "[I", true)
  | 17 => ("KinProverModel", "clash", "I", false)
  | 18 => ("KinProverModel", "whom", "I", false)
  | 19 => ("KinProverModel", "rounds", "I", false)
  | 20 => ("KinProverModel", "ruled", "I", false)
  | 21 => ("KinProverModel", "isChanged", "Z", false)
  | 22 => ("KinProverModel", "up", "[I", true)
  | 23 => ("KinProverModel", "down", "[I", true)
  | 24 => ("KinProverModel", "path", "[I", true)
  | 25 => ("KinProverModel", "born", "[I", true)
  | 26 => ("KinProverModel", "age", "[I", true)
  | 27 => ("KinProverModel", "ancestor", "I", false)
  | 28 => ("KinProverModel", "paths", "I", false)
  | 29 => ("KinProverModel", "items", "[I", true)
  | _ => ("KinProverModel", "cell", "[I", true)
def tyX10 : Nat → FieldType := fun k => match k with
  | 0 => .array .int
  | 1 => .array .int
  | 2 => .boolean
  | 3 => .array .int
  | 4 => .array .int
  | 5 => .array .int
  | 6 => .int
  | 7 => .int
  | 8 => .int
  | 9 => .int
  | 10 => .array .int
  | 11 => .array .int
  | 12 => .array .int
  | 13 => .array .int
  | 14 => .array .int
  | 15 => .array .int
  | 16 => .array .int
  | 17 => .int
  | 18 => .int
  | 19 => .int
  | 20 => .int
  | 21 => .boolean
  | 22 => .array .int
  | 23 => .array .int
  | 24 => .array .int
  | 25 => .array .int
  | 26 => .array .int
  | 27 => .int
  | 28 => .int
  | 29 => .array .int
  | _ => .array .int
theorem nmX10 : ∀ a, a < 31 → ∀ b, b < 31 → a ≠ b → (TX10 a).2.1 ≠ (TX10 b).2.1 := by decide +kernel
theorem tyX10_ok : ∀ k, k < 31 → parseFieldDescriptor (TX10 k).2.2.1 = some (tyX10 k) := by decide +kernel
abbrev cX10_init : ByteArray := prog_12_method_1_code
def yX10_init : MethodName := ⟨RX10, "<init>", "()V"⟩
abbrev cX10_isIn : ByteArray := prog_12_method_2_code
def yX10_isIn : MethodName := ⟨RX10, "isIn", "(III)Z"⟩
abbrev cX10_isPerson : ByteArray := prog_12_method_3_code
def yX10_isPerson : MethodName := ⟨RX10, "isPerson", "(I)Z"⟩
abbrev cX10_isStatement : ByteArray := prog_12_method_4_code
def yX10_isStatement : MethodName := ⟨RX10, "isStatement", "(I)Z"⟩
abbrev cX10_told : ByteArray := prog_12_method_5_code
def yX10_told : MethodName := ⟨RX10, "told", "(II)I"⟩
abbrev cX10_isLive : ByteArray := prog_12_method_6_code
def yX10_isLive : MethodName := ⟨RX10, "isLive", "(II)Z"⟩
abbrev cX10_sexOf : ByteArray := prog_12_method_7_code
def yX10_sexOf : MethodName := ⟨RX10, "sexOf", "(I)I"⟩
abbrev cX10_letterOf : ByteArray := prog_12_method_8_code
def yX10_letterOf : MethodName := ⟨RX10, "letterOf", "(II)I"⟩
abbrev cX10_has : ByteArray := prog_12_method_9_code
def yX10_has : MethodName := ⟨RX10, "has", "(II)Z"⟩
abbrev cX10_ones : ByteArray := prog_12_method_10_code
def yX10_ones : MethodName := ⟨RX10, "ones", "(I)I"⟩
abbrev cX10_joins : ByteArray := prog_12_method_11_code
def yX10_joins : MethodName := ⟨RX10, "joins", "()V"⟩
abbrev cX10_isOne : ByteArray := prog_12_method_12_code
def yX10_isOne : MethodName := ⟨RX10, "isOne", "(I)Z"⟩
abbrev cX10_parents : ByteArray := prog_12_method_13_code
def yX10_parents : MethodName := ⟨RX10, "parents", "()V"⟩
abbrev cX10_sexes : ByteArray := prog_12_method_14_code
def yX10_sexes : MethodName := ⟨RX10, "sexes", "(I)I"⟩
abbrev cX10_clashes : ByteArray := prog_12_method_15_code
def yX10_clashes : MethodName := ⟨RX10, "clashes", "(II)V"⟩
abbrev cX10_looks : ByteArray := prog_12_method_16_code
def yX10_looks : MethodName := ⟨RX10, "looks", "()V"⟩
abbrev cX10_bornOf : ByteArray := prog_12_method_17_code
def yX10_bornOf : MethodName := ⟨RX10, "bornOf", "(I)I"⟩
abbrev cX10_yearOf : ByteArray := prog_12_method_18_code
def yX10_yearOf : MethodName := ⟨RX10, "yearOf", "(I)I"⟩
abbrev cX10_narrows : ByteArray := prog_12_method_19_code
def yX10_narrows : MethodName := ⟨RX10, "narrows", "(III)V"⟩
abbrev cX10_isWithin : ByteArray := prog_12_method_20_code
def yX10_isWithin : MethodName := ⟨RX10, "isWithin", "(III)V"⟩
abbrev cX10_differ : ByteArray := prog_12_method_21_code
def yX10_differ : MethodName := ⟨RX10, "differ", "(IIII)V"⟩
abbrev cX10_weds : ByteArray := prog_12_method_22_code
def yX10_weds : MethodName := ⟨RX10, "weds", "(II)V"⟩
abbrev cX10_applies : ByteArray := prog_12_method_23_code
def yX10_applies : MethodName := ⟨RX10, "applies", "(I)V"⟩
abbrev cX10_works : ByteArray := prog_12_method_24_code
def yX10_works : MethodName := ⟨RX10, "works", "()V"⟩
abbrev cX10_feed : ByteArray := prog_12_method_25_code
def yX10_feed : MethodName := ⟨RX10, "feed", "(I)I"⟩
abbrev cX10_clear : ByteArray := prog_12_method_26_code
def yX10_clear : MethodName := ⟨RX10, "clear", "()I"⟩
abbrev cX10_paper : ByteArray := prog_12_method_27_code
def yX10_paper : MethodName := ⟨RX10, "paper", "(I)I"⟩
abbrev cX10_lettersOnTape : ByteArray := prog_12_method_28_code
def yX10_lettersOnTape : MethodName := ⟨RX10, "lettersOnTape", "()I"⟩
abbrev cX10_person : ByteArray := prog_12_method_29_code
def yX10_person : MethodName := ⟨RX10, "person", "(I)I"⟩
abbrev cX10_sex : ByteArray := prog_12_method_30_code
def yX10_sex : MethodName := ⟨RX10, "sex", "(II)I"⟩
abbrev cX10_fails : ByteArray := prog_12_method_31_code
def yX10_fails : MethodName := ⟨RX10, "fails", "(I)V"⟩
abbrev cX10_number : ByteArray := prog_12_method_32_code
def yX10_number : MethodName := ⟨RX10, "number", "(III)I"⟩
abbrev cX10_sortOf : ByteArray := prog_12_method_33_code
def yX10_sortOf : MethodName := ⟨RX10, "sortOf", "(I)I"⟩
abbrev cX10_isOfTwo : ByteArray := prog_12_method_34_code
def yX10_isOfTwo : MethodName := ⟨RX10, "isOfTwo", "(I)Z"⟩
abbrev cX10_isOfYears : ByteArray := prog_12_method_35_code
def yX10_isOfYears : MethodName := ⟨RX10, "isOfYears", "(I)Z"⟩
abbrev cX10_reads : ByteArray := prog_12_method_36_code
def yX10_reads : MethodName := ⟨RX10, "reads", "()Z"⟩
abbrev cX10_comes : ByteArray := prog_12_method_37_code
def yX10_comes : MethodName := ⟨RX10, "comes", "(I)V"⟩
abbrev cX10_state : ByteArray := prog_12_method_38_code
def yX10_state : MethodName := ⟨RX10, "state", "(I)I"⟩
abbrev cX10_live : ByteArray := prog_12_method_39_code
def yX10_live : MethodName := ⟨RX10, "live", "(II)I"⟩
abbrev cX10_of : ByteArray := prog_12_method_40_code
def yX10_of : MethodName := ⟨RX10, "of", "(II)I"⟩
abbrev cX10_writes : ByteArray := prog_12_method_41_code
def yX10_writes : MethodName := ⟨RX10, "writes", "(I)V"⟩
abbrev cX10_writesNumber : ByteArray := prog_12_method_42_code
def yX10_writesNumber : MethodName := ⟨RX10, "writesNumber", "(I)V"⟩
abbrev cX10_spell : ByteArray := prog_12_method_43_code
def yX10_spell : MethodName := ⟨RX10, "spell", "(I)I"⟩
abbrev cX10_lengthOf : ByteArray := prog_12_method_44_code
def yX10_lengthOf : MethodName := ⟨RX10, "lengthOf", "(I)I"⟩
abbrev cX10_compares : ByteArray := prog_12_method_45_code
def yX10_compares : MethodName := ⟨RX10, "compares", "(II)I"⟩
abbrev cX10_name : ByteArray := prog_12_method_46_code
def yX10_name : MethodName := ⟨RX10, "name", "(II)I"⟩
abbrev cX10_find : ByteArray := prog_12_method_47_code
def yX10_find : MethodName := ⟨RX10, "find", "(I)I"⟩
abbrev cX10_byName : ByteArray := prog_12_method_48_code
def yX10_byName : MethodName := ⟨RX10, "byName", "(I)I"⟩
abbrev cX10_least : ByteArray := prog_12_method_49_code
def yX10_least : MethodName := ⟨RX10, "least", "(I)I"⟩
abbrev cX10_childrenOf : ByteArray := prog_12_method_50_code
def yX10_childrenOf : MethodName := ⟨RX10, "childrenOf", "(I)I"⟩
abbrev cX10_marriedTo : ByteArray := prog_12_method_51_code
def yX10_marriedTo : MethodName := ⟨RX10, "marriedTo", "(I)I"⟩
abbrev cX10_marriages : ByteArray := prog_12_method_52_code
def yX10_marriages : MethodName := ⟨RX10, "marriages", "(I)I"⟩
abbrev cX10_ages : ByteArray := prog_12_method_53_code
def yX10_ages : MethodName := ⟨RX10, "ages", "()Z"⟩
abbrev cX10_people : ByteArray := prog_12_method_54_code
def yX10_people : MethodName := ⟨RX10, "people", "(II)I"⟩
abbrev cX10_isEnd : ByteArray := prog_12_method_55_code
def yX10_isEnd : MethodName := ⟨RX10, "isEnd", "(III)Z"⟩
abbrev cX10_endOf : ByteArray := prog_12_method_56_code
def yX10_endOf : MethodName := ⟨RX10, "endOf", "(III)I"⟩
abbrev cX10_end : ByteArray := prog_12_method_57_code
def yX10_end : MethodName := ⟨RX10, "end", "(III)I"⟩
abbrev cX10_year : ByteArray := prog_12_method_58_code
def yX10_year : MethodName := ⟨RX10, "year", "(II)I"⟩
abbrev cX10_toldRange : ByteArray := prog_12_method_59_code
def yX10_toldRange : MethodName := ⟨RX10, "toldRange", "(I)I"⟩
abbrev cX10_rests : ByteArray := prog_12_method_60_code
def yX10_rests : MethodName := ⟨RX10, "rests", "(III)I"⟩
abbrev cX10_isLink : ByteArray := prog_12_method_61_code
def yX10_isLink : MethodName := ⟨RX10, "isLink", "(II)Z"⟩
abbrev cX10_proof : ByteArray := prog_12_method_62_code
def yX10_proof : MethodName := ⟨RX10, "proof", "(IIIII)I"⟩
abbrev cX10_prove : ByteArray := prog_12_method_63_code
def yX10_prove : MethodName := ⟨RX10, "prove", "(III)I"⟩
abbrev cX10_clash : ByteArray := prog_12_method_64_code
def yX10_clash : MethodName := ⟨RX10, "clash", "(I)I"⟩
abbrev cX10_why : ByteArray := prog_12_method_65_code
def yX10_why : MethodName := ⟨RX10, "why", "(III)I"⟩
abbrev cX10_culprit : ByteArray := prog_12_method_66_code
def yX10_culprit : MethodName := ⟨RX10, "culprit", "(I)I"⟩
abbrev cX10_same : ByteArray := prog_12_method_67_code
def yX10_same : MethodName := ⟨RX10, "same", "(II)I"⟩
abbrev cX10_widthOf : ByteArray := prog_12_method_68_code
def yX10_widthOf : MethodName := ⟨RX10, "widthOf", "(II)I"⟩
abbrev cX10_narrows_ : ByteArray := prog_12_method_69_code
def yX10_narrows_ : MethodName := ⟨RX10, "narrows", "(II)I"⟩
abbrev cX10_rounds : ByteArray := prog_12_method_70_code
def yX10_rounds : MethodName := ⟨RX10, "rounds", "()I"⟩
abbrev cX10_steps : ByteArray := prog_12_method_71_code
def yX10_steps : MethodName := ⟨RX10, "steps", "(I[I)V"⟩
abbrev cX10_meets : ByteArray := prog_12_method_72_code
def yX10_meets : MethodName := ⟨RX10, "meets", "(II)Z"⟩
abbrev cX10_areTwo : ByteArray := prog_12_method_73_code
def yX10_areTwo : MethodName := ⟨RX10, "areTwo", "(II)Z"⟩
abbrev cX10_kin : ByteArray := prog_12_method_74_code
def yX10_kin : MethodName := ⟨RX10, "kin", "(II)I"⟩
abbrev cX10_common : ByteArray := prog_12_method_75_code
def yX10_common : MethodName := ⟨RX10, "common", "(II)I"⟩
abbrev cX10_under : ByteArray := prog_12_method_76_code
def yX10_under : MethodName := ⟨RX10, "under", "(I[I)I"⟩
abbrev cX10_isHalf : ByteArray := prog_12_method_77_code
def yX10_isHalf : MethodName := ⟨RX10, "isHalf", "()Z"⟩
abbrev cX10_half : ByteArray := prog_12_method_78_code
def yX10_half : MethodName := ⟨RX10, "half", "(II)I"⟩
abbrev cX10_writes_ : ByteArray := prog_12_method_79_code
def yX10_writes_ : MethodName := ⟨RX10, "writes", "(Ljava/lang/String;)V"⟩
abbrev cX10_writesBy : ByteArray := prog_12_method_80_code
def yX10_writesBy : MethodName := ⟨RX10, "writesBy", "(ILjava/lang/String;Ljava/lang/String;Ljava/lang/String;)V"⟩
abbrev cX10_grands : ByteArray := prog_12_method_81_code
def yX10_grands : MethodName := ⟨RX10, "grands", "(I)V"⟩
abbrev cX10_title : ByteArray := prog_12_method_82_code
def yX10_title : MethodName := ⟨RX10, "title", "(II)I"⟩
abbrev cX10_path : ByteArray := prog_12_method_83_code
def yX10_path : MethodName := ⟨RX10, "path", "(III)I"⟩
abbrev cX10_relatives : ByteArray := prog_12_method_84_code
def yX10_relatives : MethodName := ⟨RX10, "relatives", "(II)J"⟩
abbrev cX10_ancestors : ByteArray := prog_12_method_85_code
def yX10_ancestors : MethodName := ⟨RX10, "ancestors", "(I)J"⟩
abbrev cX10_descendants : ByteArray := prog_12_method_86_code
def yX10_descendants : MethodName := ⟨RX10, "descendants", "(I)J"⟩
abbrev cX10_isBornAhead : ByteArray := prog_12_method_87_code
def yX10_isBornAhead : MethodName := ⟨RX10, "isBornAhead", "(II)Z"⟩
abbrev cX10_orders : ByteArray := prog_12_method_88_code
def yX10_orders : MethodName := ⟨RX10, "orders", "()I"⟩
abbrev cX10_order : ByteArray := prog_12_method_89_code
def yX10_order : MethodName := ⟨RX10, "order", "(I)I"⟩
abbrev cX10_ahead : ByteArray := prog_12_method_90_code
def yX10_ahead : MethodName := ⟨RX10, "ahead", "(II)I"⟩
abbrev cX10_told_ : ByteArray := prog_12_method_91_code
def yX10_told_ : MethodName := ⟨RX10, "told", "(I)I"⟩
abbrev cX10_isList : ByteArray := prog_12_method_92_code
def yX10_isList : MethodName := ⟨RX10, "isList", "(I)Z"⟩
abbrev cX10_list : ByteArray := prog_12_method_93_code
def yX10_list : MethodName := ⟨RX10, "list", "(II)I"⟩
abbrev cX10_set : ByteArray := prog_12_method_94_code
def yX10_set : MethodName := ⟨RX10, "set", "(III)I"⟩
abbrev cX10_get : ByteArray := prog_12_method_95_code
def yX10_get : MethodName := ⟨RX10, "get", "(II)J"⟩
abbrev cX10_lay : ByteArray := prog_12_method_96_code
def yX10_lay : MethodName := ⟨RX10, "lay", "(II)I"⟩
abbrev cX10_judge : ByteArray := prog_12_method_97_code
def yX10_judge : MethodName := ⟨RX10, "judge", "(II)I"⟩
abbrev cX10_copies : ByteArray := prog_12_method_98_code
def yX10_copies : MethodName := ⟨RX10, "copies", "([I[I)V"⟩
abbrev cX10_image : ByteArray := prog_12_method_99_code
def yX10_image : MethodName := ⟨RX10, "image", "()I"⟩
abbrev cX10_undo : ByteArray := prog_12_method_100_code
def yX10_undo : MethodName := ⟨RX10, "undo", "()I"⟩
def RJ6 : String := "java/lang/Integer"
def TJ6 : u_T := fun k => match k with
  | _ => ("", "", "", false)
def tyJ6 : Nat → FieldType := fun k => match k with
  | _ => .int
abbrev cJ6_bitCount_0f7a4 : ByteArray := prog_13_method_49_code
def yJ6_bitCount_0f7a4 : MethodName := ⟨RJ6, "bitCount", "(I)I"⟩
def RJ9 : String := "java/lang/Math"
def TJ9 : u_T := fun k => match k with
  | _ => ("", "", "", false)
def tyJ9 : Nat → FieldType := fun k => match k with
  | _ => .int
abbrev cJ9_abs_0f7a4 : ByteArray := prog_14_method_59_code
def yJ9_abs_0f7a4 : MethodName := ⟨RJ9, "abs", "(I)I"⟩
abbrev cJ9_max_7cf53 : ByteArray := prog_14_method_65_code
def yJ9_max_7cf53 : MethodName := ⟨RJ9, "max", "(II)I"⟩
abbrev cJ9_min_7cf53 : ByteArray := prog_14_method_69_code
def yJ9_min_7cf53 : MethodName := ⟨RJ9, "min", "(II)I"⟩
def RJ0 : String := "java/lang/String"
def TJ0 : u_T := fun k => match k with
  | _ => ("", "", "", false)
def tyJ0 : Nat → FieldType := fun k => match k with
  | _ => .int
abbrev cJ0_length_8abf5 : ByteArray := prog_15_method_54_code
def yJ0_length_8abf5 : MethodName := ⟨RJ0, "length", "()I"⟩
abbrev cJ0_charAt_5068e : ByteArray := prog_15_method_56_code
def yJ0_charAt_5068e : MethodName := ⟨RJ0, "charAt", "(I)C"⟩
abbrev cJ0_coder_7d493 : ByteArray := prog_15_method_152_code
def yJ0_coder_7d493 : MethodName := ⟨RJ0, "coder", "()B"⟩
abbrev cJ0_isLatin1_aae02 : ByteArray := prog_15_method_154_code
def yJ0_isLatin1_aae02 : MethodName := ⟨RJ0, "isLatin1", "()Z"⟩
abbrev cJ0_checkIndex_df160 : ByteArray := prog_15_method_155_code
def yJ0_checkIndex_df160 : MethodName := ⟨RJ0, "checkIndex", "(II)V"⟩
def RJ1 : String := "java/lang/StringLatin1"
def TJ1 : u_T := fun k => match k with
  | _ => ("", "", "", false)
def tyJ1 : Nat → FieldType := fun k => match k with
  | _ => .int
abbrev cJ1_charAt_3b067 : ByteArray := prog_16_method_2_code
def yJ1_charAt_3b067 : MethodName := ⟨RJ1, "charAt", "([BI)C"⟩
def RJ2 : String := "java/lang/StringUTF16"
def TJ2 : u_T := fun k => match k with
  | _ => ("", "", "", false)
def tyJ2 : Nat → FieldType := fun k => match k with
  | _ => .int
abbrev cJ2_getChar_3b067 : ByteArray := prog_17_method_5_code
def yJ2_getChar_3b067 : MethodName := ⟨RJ2, "getChar", "([BI)C"⟩
abbrev cJ2_length_9d52b : ByteArray := prog_17_method_6_code
def yJ2_length_9d52b : MethodName := ⟨RJ2, "length", "([B)I"⟩
abbrev cJ2_charAt_3b067 : ByteArray := prog_17_method_83_code
def yJ2_charAt_3b067 : MethodName := ⟨RJ2, "charAt", "([BI)C"⟩
abbrev cJ2_checkIndex_2214a : ByteArray := prog_17_method_91_code
def yJ2_checkIndex_2214a : MethodName := ⟨RJ2, "checkIndex", "(I[B)V"⟩
def RJ10 : String := "java/lang/System"
def TJ10 : u_T := fun k => match k with
  | _ => ("", "", "", false)
def tyJ10 : Nat → FieldType := fun k => match k with
  | _ => .int
def RJ3 : String := "jdk/internal/util/Preconditions"
def TJ3 : u_T := fun k => match k with
  | _ => ("", "", "", false)
def tyJ3 : Nat → FieldType := fun k => match k with
  | _ => .int
abbrev cJ3_checkIndex_8e157 : ByteArray := prog_19_method_11_code
def yJ3_checkIndex_8e157 : MethodName := ⟨RJ3, "checkIndex", "(IILjava/util/function/BiFunction;)I"⟩
def RL : String := "KinProverLaw"
abbrev cL_law : ByteArray := code
def yL_law : MethodName := ⟨RL, "law", "([I)Z"⟩
abbrev vwCl : List vw_C := [(RX0, TX0, 11), (RX1, TX1, 13), (RX2, TX2, 2), (RX3, TX3, 12), (RX4, TX4, 8), (RX5, TX5, 2), (RX7, TX7, 5), (RX8, TX8, 7), (RX9, TX9, 14), (RX10, TX10, 31)]
end
section
/-- the words of the tables that a method may carry on -/
def GW : List Cond := lw_tbl.filter goodWord
theorem GW_in : ∀ w ∈ GW, w ∈ lw_tbl := fun _ h => (List.mem_filter.mp h).1
theorem GW_good : ∀ w ∈ GW, goodWord w = true := fun _ h => (List.mem_filter.mp h).2
theorem mwq {w : Cond} (h : w ∈ lw_tbl) (g : goodWord w = true) : w ∈ GW := List.mem_filter.mpr ⟨h, g⟩
theorem tb1 : ∀ w ∈ tables_1_1, w ∈ lw_tbl := fun w h => List.mem_append_right _ (show w ∈ tables_1 from List.mem_append_left _ h)
theorem tb2 : ∀ w ∈ tables_1_2, w ∈ lw_tbl := fun w h => List.mem_append_right _ (show w ∈ tables_1 from List.mem_append_right _ (List.mem_append_left _ h))
theorem tb3 : ∀ w ∈ tables_1_3, w ∈ lw_tbl := fun w h => List.mem_append_right _ (show w ∈ tables_1 from List.mem_append_right _ (List.mem_append_right _ (List.mem_append_left _ h)))
theorem tb4 : ∀ w ∈ tables_1_4, w ∈ lw_tbl := fun w h => List.mem_append_right _ (show w ∈ tables_1 from List.mem_append_right _ (List.mem_append_right _ (List.mem_append_right _ (List.mem_append_left _ h))))
theorem tb5 : ∀ w ∈ tables_1_5, w ∈ lw_tbl := fun w h => List.mem_append_right _ (show w ∈ tables_1 from List.mem_append_right _ (List.mem_append_right _ (List.mem_append_right _ (List.mem_append_right _ (List.mem_append_left _ h)))))
theorem tb6 : ∀ w ∈ tables_1_6, w ∈ lw_tbl := fun w h => List.mem_append_right _ (show w ∈ tables_1 from List.mem_append_right _ (List.mem_append_right _ (List.mem_append_right _ (List.mem_append_right _ (List.mem_append_right _ (List.mem_append_left _ h))))))
theorem tb7 : ∀ w ∈ tables_1_7, w ∈ lw_tbl := fun w h => List.mem_append_right _ (show w ∈ tables_1 from List.mem_append_right _ (List.mem_append_right _ (List.mem_append_right _ (List.mem_append_right _ (List.mem_append_right _ (List.mem_append_right _ (h)))))))
theorem tbp1 : ∀ w ∈ lw_privs_1.map (fun q => Cond.selects q.1.cls q.1 q.1), w ∈ lw_tbl := fun w h => List.mem_append_left _ (by
  obtain ⟨q, hq, rfl⟩ := List.mem_map.mp h
  exact List.mem_map.mpr ⟨q, (show q ∈ lw_privs from List.mem_append_left _ hq), rfl⟩)
theorem tbp2 : ∀ w ∈ lw_privs_2.map (fun q => Cond.selects q.1.cls q.1 q.1), w ∈ lw_tbl := fun w h => List.mem_append_left _ (by
  obtain ⟨q, hq, rfl⟩ := List.mem_map.mp h
  exact List.mem_map.mpr ⟨q, (show q ∈ lw_privs from List.mem_append_right _ (List.mem_append_left _ hq)), rfl⟩)
theorem tbp3 : ∀ w ∈ lw_privs_3.map (fun q => Cond.selects q.1.cls q.1 q.1), w ∈ lw_tbl := fun w h => List.mem_append_left _ (by
  obtain ⟨q, hq, rfl⟩ := List.mem_map.mp h
  exact List.mem_map.mpr ⟨q, (show q ∈ lw_privs from List.mem_append_right _ (List.mem_append_right _ (List.mem_append_left _ hq))), rfl⟩)
theorem tbp4 : ∀ w ∈ lw_privs_4.map (fun q => Cond.selects q.1.cls q.1 q.1), w ∈ lw_tbl := fun w h => List.mem_append_left _ (by
  obtain ⟨q, hq, rfl⟩ := List.mem_map.mp h
  exact List.mem_map.mpr ⟨q, (show q ∈ lw_privs from List.mem_append_right _ (List.mem_append_right _ (List.mem_append_right _ (List.mem_append_left _ hq)))), rfl⟩)
theorem tbp5 : ∀ w ∈ lw_privs_5.map (fun q => Cond.selects q.1.cls q.1 q.1), w ∈ lw_tbl := fun w h => List.mem_append_left _ (by
  obtain ⟨q, hq, rfl⟩ := List.mem_map.mp h
  exact List.mem_map.mpr ⟨q, (show q ∈ lw_privs from List.mem_append_right _ (List.mem_append_right _ (List.mem_append_right _ (List.mem_append_right _ (hq))))), rfl⟩)
theorem mw0 : Cond.initialized RL ∈ GW := mwq (tb1 _ (List.mem_of_getElem? (i := 0) (by decide +kernel))) (by decide +kernel)
theorem mw1 : Cond.initialized RX9 ∈ GW := mwq (tb1 _ (List.mem_of_getElem? (i := 1) (by decide +kernel))) (by decide +kernel)
theorem mw2 : Cond.initialized RX0 ∈ GW := mwq (tb1 _ (List.mem_of_getElem? (i := 2) (by decide +kernel))) (by decide +kernel)
theorem mw3 : Cond.initialized RX5 ∈ GW := mwq (tb1 _ (List.mem_of_getElem? (i := 3) (by decide +kernel))) (by decide +kernel)
theorem mw4 : Cond.initialized RX4 ∈ GW := mwq (tb1 _ (List.mem_of_getElem? (i := 4) (by decide +kernel))) (by decide +kernel)
theorem mw5 : Cond.initialized RX8 ∈ GW := mwq (tb1 _ (List.mem_of_getElem? (i := 5) (by decide +kernel))) (by decide +kernel)
theorem mw6 : Cond.initialized RX1 ∈ GW := mwq (tb1 _ (List.mem_of_getElem? (i := 6) (by decide +kernel))) (by decide +kernel)
theorem mw7 : Cond.initialized RX3 ∈ GW := mwq (tb1 _ (List.mem_of_getElem? (i := 7) (by decide +kernel))) (by decide +kernel)
theorem mw8 : Cond.initialized RX7 ∈ GW := mwq (tb1 _ (List.mem_of_getElem? (i := 8) (by decide +kernel))) (by decide +kernel)
theorem mw9 : Cond.initialized RX2 ∈ GW := mwq (tb1 _ (List.mem_of_getElem? (i := 9) (by decide +kernel))) (by decide +kernel)
theorem mw10 : Cond.initialized RX10 ∈ GW := mwq (tb1 _ (List.mem_of_getElem? (i := 10) (by decide +kernel))) (by decide +kernel)
theorem mw11 : Cond.initialized RJ9 ∈ GW := mwq (tb1 _ (List.mem_of_getElem? (i := 11) (by decide +kernel))) (by decide +kernel)
theorem mw12 : Cond.initialized RJ0 ∈ GW := mwq (tb1 _ (List.mem_of_getElem? (i := 12) (by decide +kernel))) (by decide +kernel)
theorem mw13 : Cond.initialized RJ1 ∈ GW := mwq (tb1 _ (List.mem_of_getElem? (i := 13) (by decide +kernel))) (by decide +kernel)
theorem mw14 : Cond.initialized RJ3 ∈ GW := mwq (tb1 _ (List.mem_of_getElem? (i := 14) (by decide +kernel))) (by decide +kernel)
theorem mw15 : Cond.initialized RJ2 ∈ GW := mwq (tb1 _ (List.mem_of_getElem? (i := 15) (by decide +kernel))) (by decide +kernel)
theorem mw16 : Cond.initialized RJ6 ∈ GW := mwq (tb1 _ (List.mem_of_getElem? (i := 16) (by decide +kernel))) (by decide +kernel)
theorem mw17 : Cond.initialized RJ10 ∈ GW := mwq (tb1 _ (List.mem_of_getElem? (i := 17) (by decide +kernel))) (by decide +kernel)
theorem mw18 : Cond.initialized RX6 ∈ GW := mwq (tb1 _ (List.mem_of_getElem? (i := 18) (by decide +kernel))) (by decide +kernel)
theorem mw19 : Cond.classLink RL 7 RX9 ∈ GW := mwq (tb1 _ (List.mem_of_getElem? (i := 19) (by decide +kernel))) (by decide +kernel)
theorem mw20 : Cond.instantiable RX9 14 ∈ GW := mwq (tb1 _ (List.mem_of_getElem? (i := 20) (by decide +kernel))) (by decide +kernel)
theorem mw21 : Cond.methodLink RL 9 yX9_init ∈ GW := mwq (tb1 _ (List.mem_of_getElem? (i := 21) (by decide +kernel))) (by decide +kernel)
theorem mw22 : Cond.instanceMethod yX9_init ∈ GW := mwq (tb1 _ (List.mem_of_getElem? (i := 22) (by decide +kernel))) (by decide +kernel)
theorem mw23 : Cond.code yX9_init cX9_init 1 none ∈ GW := mwq (tb1 _ (List.mem_of_getElem? (i := 23) (by decide +kernel))) (by decide +kernel)
theorem mw24 : Cond.methodLink RX9 5 objectInit ∈ GW := mwq (tb1 _ (List.mem_of_getElem? (i := 24) (by decide +kernel))) (by decide +kernel)
theorem mw25 : Cond.instanceMethod objectInit ∈ GW := mwq (tb1 _ (List.mem_of_getElem? (i := 25) (by decide +kernel))) (by decide +kernel)
theorem mw26 : Cond.code objectInit ⟨#[0xb1]⟩ 1 none ∈ GW := mwq (tb1 _ (List.mem_of_getElem? (i := 26) (by decide +kernel))) (by decide +kernel)
theorem mw27 : Cond.classLink RX9 11 RX0 ∈ GW := mwq (tb1 _ (List.mem_of_getElem? (i := 27) (by decide +kernel))) (by decide +kernel)
theorem mw28 : Cond.instantiable RX0 11 ∈ GW := mwq (tb1 _ (List.mem_of_getElem? (i := 28) (by decide +kernel))) (by decide +kernel)
theorem mw29 : Cond.instanceMethod yX0_init ∈ GW := mwq (tb1 _ (List.mem_of_getElem? (i := 30) (by decide +kernel))) (by decide +kernel)
theorem mw30 : Cond.code yX0_init cX0_init 1 none ∈ GW := mwq (tb1 _ (List.mem_of_getElem? (i := 31) (by decide +kernel))) (by decide +kernel)
theorem mw31 : Cond.methodLink RX0 3 objectInit ∈ GW := mwq (tb1 _ (List.mem_of_getElem? (i := 32) (by decide +kernel))) (by decide +kernel)
theorem mw32 : Cond.classLink RX0 9 "[[B" ∈ GW := mwq (tb1 _ (List.mem_of_getElem? (i := 33) (by decide +kernel))) (by decide +kernel)
theorem mw33 : Cond.fieldLink RX0 41 "KinProver$Book" "persons" "I" ∈ GW := mwq (tb1 _ (List.mem_of_getElem? (i := 35) (by decide +kernel))) (by decide +kernel)
theorem mw34 : Cond.fieldLink RX1 53 "KinProver$Book" "persons" "I" ∈ GW := mwq (tb1 _ (List.mem_of_getElem? (i := 36) (by decide +kernel))) (by decide +kernel)
theorem mw35 : Cond.fieldLink RX9 86 "KinProver$Book" "persons" "I" ∈ GW := mwq (tb1 _ (List.mem_of_getElem? (i := 37) (by decide +kernel))) (by decide +kernel)
theorem mw36 : Cond.fieldLink RX0 45 "KinProver$Book" "statements" "I" ∈ GW := mwq (tb1 _ (List.mem_of_getElem? (i := 38) (by decide +kernel))) (by decide +kernel)
theorem mw37 : Cond.fieldLink RX9 109 "KinProver$Book" "statements" "I" ∈ GW := mwq (tb1 _ (List.mem_of_getElem? (i := 39) (by decide +kernel))) (by decide +kernel)
theorem mw38 : Cond.fieldLink RX0 11 "KinProver$Book" "names" "[[B" ∈ GW := mwq (tb1 _ (List.mem_of_getElem? (i := 40) (by decide +kernel))) (by decide +kernel)
theorem mw39 : Cond.fieldLink RX9 150 "KinProver$Book" "names" "[[B" ∈ GW := mwq (tb1 _ (List.mem_of_getElem? (i := 41) (by decide +kernel))) (by decide +kernel)
theorem mw40 : Cond.fieldLink RX0 16 "KinProver$Book" "nameLengths" "[I" ∈ GW := mwq (tb1 _ (List.mem_of_getElem? (i := 42) (by decide +kernel))) (by decide +kernel)
theorem mw41 : Cond.fieldLink RX9 147 "KinProver$Book" "nameLengths" "[I" ∈ GW := mwq (tb1 _ (List.mem_of_getElem? (i := 43) (by decide +kernel))) (by decide +kernel)
theorem mw42 : Cond.fieldLink RX0 20 "KinProver$Book" "sexes" "[I" ∈ GW := mwq (tb1 _ (List.mem_of_getElem? (i := 44) (by decide +kernel))) (by decide +kernel)
theorem mw43 : Cond.fieldLink RX1 62 "KinProver$Book" "sexes" "[I" ∈ GW := mwq (tb1 _ (List.mem_of_getElem? (i := 45) (by decide +kernel))) (by decide +kernel)
theorem mw44 : Cond.fieldLink RX9 103 "KinProver$Book" "sexes" "[I" ∈ GW := mwq (tb1 _ (List.mem_of_getElem? (i := 46) (by decide +kernel))) (by decide +kernel)
theorem mw45 : Cond.fieldLink RX0 23 "KinProver$Book" "sorts" "[I" ∈ GW := mwq (tb1 _ (List.mem_of_getElem? (i := 47) (by decide +kernel))) (by decide +kernel)
theorem mw46 : Cond.fieldLink RX3 73 "KinProver$Book" "sorts" "[I" ∈ GW := mwq (tb1 _ (List.mem_of_getElem? (i := 48) (by decide +kernel))) (by decide +kernel)
theorem mw47 : Cond.fieldLink RX1 79 "KinProver$Book" "sorts" "[I" ∈ GW := mwq (tb1 _ (List.mem_of_getElem? (i := 49) (by decide +kernel))) (by decide +kernel)
theorem mw48 : Cond.fieldLink RX9 129 "KinProver$Book" "sorts" "[I" ∈ GW := mwq (tb1 _ (List.mem_of_getElem? (i := 50) (by decide +kernel))) (by decide +kernel)
theorem mw49 : Cond.fieldLink RX0 26 "KinProver$Book" "firsts" "[I" ∈ GW := mwq (tb1 _ (List.mem_of_getElem? (i := 51) (by decide +kernel))) (by decide +kernel)
theorem mw50 : Cond.fieldLink RX3 62 "KinProver$Book" "firsts" "[I" ∈ GW := mwq (tb1 _ (List.mem_of_getElem? (i := 52) (by decide +kernel))) (by decide +kernel)
theorem mw51 : Cond.fieldLink RX1 82 "KinProver$Book" "firsts" "[I" ∈ GW := mwq (tb1 _ (List.mem_of_getElem? (i := 53) (by decide +kernel))) (by decide +kernel)
theorem mw52 : Cond.fieldLink RX9 132 "KinProver$Book" "firsts" "[I" ∈ GW := mwq (tb1 _ (List.mem_of_getElem? (i := 54) (by decide +kernel))) (by decide +kernel)
theorem mw53 : Cond.fieldLink RX0 29 "KinProver$Book" "seconds" "[I" ∈ GW := mwq (tb1 _ (List.mem_of_getElem? (i := 55) (by decide +kernel))) (by decide +kernel)
theorem mw54 : Cond.fieldLink RX3 67 "KinProver$Book" "seconds" "[I" ∈ GW := mwq (tb1 _ (List.mem_of_getElem? (i := 56) (by decide +kernel))) (by decide +kernel)
theorem mw55 : Cond.fieldLink RX1 85 "KinProver$Book" "seconds" "[I" ∈ GW := mwq (tb1 _ (List.mem_of_getElem? (i := 57) (by decide +kernel))) (by decide +kernel)
theorem mw56 : Cond.fieldLink RX9 135 "KinProver$Book" "seconds" "[I" ∈ GW := mwq (tb1 _ (List.mem_of_getElem? (i := 58) (by decide +kernel))) (by decide +kernel)
theorem mw57 : Cond.fieldLink RX0 32 "KinProver$Book" "lows" "[I" ∈ GW := mwq (tb1 _ (List.mem_of_getElem? (i := 59) (by decide +kernel))) (by decide +kernel)
theorem mw58 : Cond.fieldLink RX3 70 "KinProver$Book" "lows" "[I" ∈ GW := mwq (tb1 _ (List.mem_of_getElem? (i := 60) (by decide +kernel))) (by decide +kernel)
theorem mw59 : Cond.fieldLink RX9 138 "KinProver$Book" "lows" "[I" ∈ GW := mwq (tb1 _ (List.mem_of_getElem? (i := 61) (by decide +kernel))) (by decide +kernel)
theorem mw60 : Cond.fieldLink RX0 35 "KinProver$Book" "highs" "[I" ∈ GW := mwq (tb1 _ (List.mem_of_getElem? (i := 62) (by decide +kernel))) (by decide +kernel)
theorem mw61 : Cond.fieldLink RX3 76 "KinProver$Book" "highs" "[I" ∈ GW := mwq (tb1 _ (List.mem_of_getElem? (i := 63) (by decide +kernel))) (by decide +kernel)
theorem mw62 : Cond.fieldLink RX9 141 "KinProver$Book" "highs" "[I" ∈ GW := mwq (tb1 _ (List.mem_of_getElem? (i := 64) (by decide +kernel))) (by decide +kernel)
theorem mw63 : Cond.fieldLink RX0 38 "KinProver$Book" "lives" "[I" ∈ GW := mwq (tb1 _ (List.mem_of_getElem? (i := 65) (by decide +kernel))) (by decide +kernel)
theorem mw64 : Cond.fieldLink RX8 36 "KinProver$Book" "lives" "[I" ∈ GW := mwq (tb1 _ (List.mem_of_getElem? (i := 66) (by decide +kernel))) (by decide +kernel)
theorem mw65 : Cond.fieldLink RX9 126 "KinProver$Book" "lives" "[I" ∈ GW := mwq (tb1 _ (List.mem_of_getElem? (i := 67) (by decide +kernel))) (by decide +kernel)
theorem mw66 : Cond.lays RX0 "KinProver$Book" "persons" "I" ∈ GW := mwq (tb1 _ (List.mem_of_getElem? (i := 68) (by decide +kernel))) (by decide +kernel)
theorem mw67 : Cond.lays RX0 "KinProver$Book" "statements" "I" ∈ GW := mwq (tb1 _ (List.mem_of_getElem? (i := 70) (by decide +kernel))) (by decide +kernel)
theorem mw68 : Cond.laysFinal RX0 "KinProver$Book" "names" "[[B" ∈ GW := mwq (tb1 _ (List.mem_of_getElem? (i := 72) (by decide +kernel))) (by decide +kernel)
theorem mw69 : Cond.laysFinal RX0 "KinProver$Book" "nameLengths" "[I" ∈ GW := mwq (tb1 _ (List.mem_of_getElem? (i := 74) (by decide +kernel))) (by decide +kernel)
theorem mw70 : Cond.laysFinal RX0 "KinProver$Book" "sexes" "[I" ∈ GW := mwq (tb1 _ (List.mem_of_getElem? (i := 76) (by decide +kernel))) (by decide +kernel)
theorem mw71 : Cond.laysFinal RX0 "KinProver$Book" "sorts" "[I" ∈ GW := mwq (tb1 _ (List.mem_of_getElem? (i := 78) (by decide +kernel))) (by decide +kernel)
theorem mw72 : Cond.laysFinal RX0 "KinProver$Book" "firsts" "[I" ∈ GW := mwq (tb1 _ (List.mem_of_getElem? (i := 80) (by decide +kernel))) (by decide +kernel)
theorem mw73 : Cond.laysFinal RX0 "KinProver$Book" "seconds" "[I" ∈ GW := mwq (tb1 _ (List.mem_of_getElem? (i := 82) (by decide +kernel))) (by decide +kernel)
theorem mw74 : Cond.laysFinal RX0 "KinProver$Book" "lows" "[I" ∈ GW := mwq (tb1 _ (List.mem_of_getElem? (i := 84) (by decide +kernel))) (by decide +kernel)
theorem mw75 : Cond.laysFinal RX0 "KinProver$Book" "highs" "[I" ∈ GW := mwq (tb1 _ (List.mem_of_getElem? (i := 86) (by decide +kernel))) (by decide +kernel)
theorem mw76 : Cond.laysFinal RX0 "KinProver$Book" "lives" "[I" ∈ GW := mwq (tb1 _ (List.mem_of_getElem? (i := 88) (by decide +kernel))) (by decide +kernel)
theorem mw77 : Cond.arrayClass FieldType.byte ∈ GW := mwq (tb1 _ (List.mem_of_getElem? (i := 91) (by decide +kernel))) (by decide +kernel)
theorem mw78 : Cond.arrayClass FieldType.int ∈ GW := mwq (tb1 _ (List.mem_of_getElem? (i := 92) (by decide +kernel))) (by decide +kernel)
theorem mw79 : Cond.classLink RX9 21 RX5 ∈ GW := mwq (tb1 _ (List.mem_of_getElem? (i := 93) (by decide +kernel))) (by decide +kernel)
theorem mw80 : Cond.instantiable RX5 2 ∈ GW := mwq (tb1 _ (List.mem_of_getElem? (i := 94) (by decide +kernel))) (by decide +kernel)
theorem mw81 : Cond.methodLink RX9 23 yX5_init ∈ GW := mwq (tb1 _ (List.mem_of_getElem? (i := 95) (by decide +kernel))) (by decide +kernel)
theorem mw82 : Cond.instanceMethod yX5_init ∈ GW := mwq (tb1 _ (List.mem_of_getElem? (i := 96) (by decide +kernel))) (by decide +kernel)
theorem mw83 : Cond.code yX5_init cX5_init 2 none ∈ GW := mwq (tb1 _ (List.mem_of_getElem? (i := 97) (by decide +kernel))) (by decide +kernel)
theorem mw84 : Cond.methodLink RX5 3 objectInit ∈ GW := mwq (tb1 _ (List.mem_of_getElem? (i := 98) (by decide +kernel))) (by decide +kernel)
theorem mw85 : Cond.fieldLink RX5 9 "KinProver$Text" "bytes" "[B" ∈ GW := mwq (tb1 _ (List.mem_of_getElem? (i := 99) (by decide +kernel))) (by decide +kernel)
theorem mw86 : Cond.fieldLink RX0 53 "KinProver$Text" "bytes" "[B" ∈ GW := mwq (tb1 _ (List.mem_of_getElem? (i := 100) (by decide +kernel))) (by decide +kernel)
theorem mw87 : Cond.fieldLink RX5 15 "KinProver$Text" "length" "I" ∈ GW := mwq (tb1 _ (List.mem_of_getElem? (i := 101) (by decide +kernel))) (by decide +kernel)
theorem mw88 : Cond.fieldLink RX9 68 "KinProver$Text" "length" "I" ∈ GW := mwq (tb1 _ (List.mem_of_getElem? (i := 102) (by decide +kernel))) (by decide +kernel)
theorem mw89 : Cond.fieldLink RX0 48 "KinProver$Text" "length" "I" ∈ GW := mwq (tb1 _ (List.mem_of_getElem? (i := 103) (by decide +kernel))) (by decide +kernel)
theorem mw90 : Cond.fieldLink RX4 63 "KinProver$Text" "length" "I" ∈ GW := mwq (tb1 _ (List.mem_of_getElem? (i := 104) (by decide +kernel))) (by decide +kernel)
theorem mw91 : Cond.laysFinal RX5 "KinProver$Text" "bytes" "[B" ∈ GW := mwq (tb1 _ (List.mem_of_getElem? (i := 105) (by decide +kernel))) (by decide +kernel)
theorem mw92 : Cond.lays RX5 "KinProver$Text" "length" "I" ∈ GW := mwq (tb1 _ (List.mem_of_getElem? (i := 107) (by decide +kernel))) (by decide +kernel)
theorem mw93 : Cond.classLink RX9 33 RX4 ∈ GW := mwq (tb1 _ (List.mem_of_getElem? (i := 110) (by decide +kernel))) (by decide +kernel)
theorem mw94 : Cond.instantiable RX4 8 ∈ GW := mwq (tb1 _ (List.mem_of_getElem? (i := 111) (by decide +kernel))) (by decide +kernel)
theorem mw95 : Cond.instanceMethod yX4_init ∈ GW := mwq (tb1 _ (List.mem_of_getElem? (i := 113) (by decide +kernel))) (by decide +kernel)
theorem mw96 : Cond.code yX4_init cX4_init 1 none ∈ GW := mwq (tb1 _ (List.mem_of_getElem? (i := 114) (by decide +kernel))) (by decide +kernel)
theorem mw97 : Cond.methodLink RX4 3 objectInit ∈ GW := mwq (tb1 _ (List.mem_of_getElem? (i := 115) (by decide +kernel))) (by decide +kernel)
theorem mw98 : Cond.fieldLink RX0 57 "KinProver$Reader" "sort" "I" ∈ GW := mwq (tb1 _ (List.mem_of_getElem? (i := 116) (by decide +kernel))) (by decide +kernel)
theorem mw99 : Cond.fieldLink RX4 19 "KinProver$Reader" "sort" "I" ∈ GW := mwq (tb1 _ (List.mem_of_getElem? (i := 117) (by decide +kernel))) (by decide +kernel)
theorem mw100 : Cond.fieldLink RX0 62 "KinProver$Reader" "first" "I" ∈ GW := mwq (tb1 _ (List.mem_of_getElem? (i := 118) (by decide +kernel))) (by decide +kernel)
theorem mw101 : Cond.fieldLink RX4 23 "KinProver$Reader" "first" "I" ∈ GW := mwq (tb1 _ (List.mem_of_getElem? (i := 119) (by decide +kernel))) (by decide +kernel)
theorem mw102 : Cond.fieldLink RX0 65 "KinProver$Reader" "second" "I" ∈ GW := mwq (tb1 _ (List.mem_of_getElem? (i := 120) (by decide +kernel))) (by decide +kernel)
theorem mw103 : Cond.fieldLink RX4 26 "KinProver$Reader" "second" "I" ∈ GW := mwq (tb1 _ (List.mem_of_getElem? (i := 121) (by decide +kernel))) (by decide +kernel)
theorem mw104 : Cond.fieldLink RX0 68 "KinProver$Reader" "low" "I" ∈ GW := mwq (tb1 _ (List.mem_of_getElem? (i := 122) (by decide +kernel))) (by decide +kernel)
theorem mw105 : Cond.fieldLink RX4 29 "KinProver$Reader" "low" "I" ∈ GW := mwq (tb1 _ (List.mem_of_getElem? (i := 123) (by decide +kernel))) (by decide +kernel)
theorem mw106 : Cond.fieldLink RX0 71 "KinProver$Reader" "high" "I" ∈ GW := mwq (tb1 _ (List.mem_of_getElem? (i := 124) (by decide +kernel))) (by decide +kernel)
theorem mw107 : Cond.fieldLink RX4 32 "KinProver$Reader" "high" "I" ∈ GW := mwq (tb1 _ (List.mem_of_getElem? (i := 125) (by decide +kernel))) (by decide +kernel)
theorem mw108 : Cond.fieldLink RX4 35 "KinProver$Reader" "fault" "I" ∈ GW := mwq (tb1 _ (List.mem_of_getElem? (i := 126) (by decide +kernel))) (by decide +kernel)
theorem mw109 : Cond.fieldLink RX9 116 "KinProver$Reader" "fault" "I" ∈ GW := mwq (tb1 _ (List.mem_of_getElem? (i := 127) (by decide +kernel))) (by decide +kernel)
theorem mw110 : Cond.fieldLink RX4 47 "KinProver$Reader" "place" "I" ∈ GW := mwq (tb1 _ (List.mem_of_getElem? (i := 128) (by decide +kernel))) (by decide +kernel)
theorem mw111 : Cond.fieldLink RX4 57 "KinProver$Reader" "begin" "I" ∈ GW := mwq (tb1 _ (List.mem_of_getElem? (i := 129) (by decide +kernel))) (by decide +kernel)
theorem mw112 : Cond.lays RX4 "KinProver$Reader" "sort" "I" ∈ GW := mwq (tb1 _ (List.mem_of_getElem? (i := 130) (by decide +kernel))) (by decide +kernel)
theorem mw113 : Cond.lays RX4 "KinProver$Reader" "first" "I" ∈ GW := mwq (tb1 _ (List.mem_of_getElem? (i := 132) (by decide +kernel))) (by decide +kernel)
theorem mw114 : Cond.lays RX4 "KinProver$Reader" "second" "I" ∈ GW := mwq (tb1 _ (List.mem_of_getElem? (i := 134) (by decide +kernel))) (by decide +kernel)
theorem mw115 : Cond.lays RX4 "KinProver$Reader" "low" "I" ∈ GW := mwq (tb1 _ (List.mem_of_getElem? (i := 136) (by decide +kernel))) (by decide +kernel)
theorem mw116 : Cond.lays RX4 "KinProver$Reader" "high" "I" ∈ GW := mwq (tb1 _ (List.mem_of_getElem? (i := 138) (by decide +kernel))) (by decide +kernel)
theorem mw117 : Cond.lays RX4 "KinProver$Reader" "fault" "I" ∈ GW := mwq (tb1 _ (List.mem_of_getElem? (i := 140) (by decide +kernel))) (by decide +kernel)
theorem mw118 : Cond.lays RX4 "KinProver$Reader" "place" "I" ∈ GW := mwq (tb1 _ (List.mem_of_getElem? (i := 142) (by decide +kernel))) (by decide +kernel)
theorem mw119 : Cond.lays RX4 "KinProver$Reader" "begin" "I" ∈ GW := mwq (tb1 _ (List.mem_of_getElem? (i := 144) (by decide +kernel))) (by decide +kernel)
theorem mw120 : Cond.classLink RX9 40 RX8 ∈ GW := mwq (tb1 _ (List.mem_of_getElem? (i := 147) (by decide +kernel))) (by decide +kernel)
theorem mw121 : Cond.instantiable RX8 7 ∈ GW := mwq (tb1 _ (List.mem_of_getElem? (i := 148) (by decide +kernel))) (by decide +kernel)
theorem mw122 : Cond.instanceMethod yX8_init ∈ GW := mwq (tb1 _ (List.mem_of_getElem? (i := 150) (by decide +kernel))) (by decide +kernel)
theorem mw123 : Cond.code yX8_init cX8_init 1 none ∈ GW := mwq (tb1 _ (List.mem_of_getElem? (i := 151) (by decide +kernel))) (by decide +kernel)
theorem mw124 : Cond.methodLink RX8 3 objectInit ∈ GW := mwq (tb1 _ (List.mem_of_getElem? (i := 152) (by decide +kernel))) (by decide +kernel)
theorem mw125 : Cond.classLink RX8 15 RX1 ∈ GW := mwq (tb1 _ (List.mem_of_getElem? (i := 153) (by decide +kernel))) (by decide +kernel)
theorem mw126 : Cond.instantiable RX1 13 ∈ GW := mwq (tb1 _ (List.mem_of_getElem? (i := 154) (by decide +kernel))) (by decide +kernel)
theorem mw127 : Cond.instanceMethod yX1_init ∈ GW := mwq (tb1 _ (List.mem_of_getElem? (i := 156) (by decide +kernel))) (by decide +kernel)
theorem mw128 : Cond.code yX1_init cX1_init 1 none ∈ GW := mwq (tb1 _ (List.mem_of_getElem? (i := 157) (by decide +kernel))) (by decide +kernel)
theorem mw129 : Cond.methodLink RX1 3 objectInit ∈ GW := mwq (tb1 _ (List.mem_of_getElem? (i := 158) (by decide +kernel))) (by decide +kernel)
theorem mw130 : Cond.fieldLink RX1 69 "KinProver$Folk" "count" "I" ∈ GW := mwq (tb1 _ (List.mem_of_getElem? (i := 159) (by decide +kernel))) (by decide +kernel)
theorem mw131 : Cond.fieldLink RX9 300 "KinProver$Folk" "count" "I" ∈ GW := mwq (tb1 _ (List.mem_of_getElem? (i := 160) (by decide +kernel))) (by decide +kernel)
theorem mw132 : Cond.fieldLink RX8 76 "KinProver$Folk" "all" "I" ∈ GW := mwq (tb1 _ (List.mem_of_getElem? (i := 161) (by decide +kernel))) (by decide +kernel)
theorem mw133 : Cond.fieldLink RX1 59 "KinProver$Folk" "all" "I" ∈ GW := mwq (tb1 _ (List.mem_of_getElem? (i := 162) (by decide +kernel))) (by decide +kernel)
theorem mw134 : Cond.fieldLink RX1 9 "KinProver$Folk" "group" "[I" ∈ GW := mwq (tb1 _ (List.mem_of_getElem? (i := 163) (by decide +kernel))) (by decide +kernel)
theorem mw135 : Cond.fieldLink RX3 57 "KinProver$Folk" "group" "[I" ∈ GW := mwq (tb1 _ (List.mem_of_getElem? (i := 164) (by decide +kernel))) (by decide +kernel)
theorem mw136 : Cond.fieldLink RX9 168 "KinProver$Folk" "group" "[I" ∈ GW := mwq (tb1 _ (List.mem_of_getElem? (i := 165) (by decide +kernel))) (by decide +kernel)
theorem mw137 : Cond.fieldLink RX1 15 "KinProver$Folk" "sizes" "[I" ∈ GW := mwq (tb1 _ (List.mem_of_getElem? (i := 166) (by decide +kernel))) (by decide +kernel)
theorem mw138 : Cond.fieldLink RX1 18 "KinProver$Folk" "sexes" "[I" ∈ GW := mwq (tb1 _ (List.mem_of_getElem? (i := 167) (by decide +kernel))) (by decide +kernel)
theorem mw139 : Cond.fieldLink RX9 253 "KinProver$Folk" "sexes" "[I" ∈ GW := mwq (tb1 _ (List.mem_of_getElem? (i := 168) (by decide +kernel))) (by decide +kernel)
theorem mw140 : Cond.fieldLink RX1 21 "KinProver$Folk" "mothers" "[I" ∈ GW := mwq (tb1 _ (List.mem_of_getElem? (i := 169) (by decide +kernel))) (by decide +kernel)
theorem mw141 : Cond.fieldLink RX1 24 "KinProver$Folk" "fathers" "[I" ∈ GW := mwq (tb1 _ (List.mem_of_getElem? (i := 170) (by decide +kernel))) (by decide +kernel)
theorem mw142 : Cond.fieldLink RX1 27 "KinProver$Folk" "parents" "[I" ∈ GW := mwq (tb1 _ (List.mem_of_getElem? (i := 171) (by decide +kernel))) (by decide +kernel)
theorem mw143 : Cond.fieldLink RX7 42 "KinProver$Folk" "parents" "[I" ∈ GW := mwq (tb1 _ (List.mem_of_getElem? (i := 172) (by decide +kernel))) (by decide +kernel)
theorem mw144 : Cond.fieldLink RX1 30 "KinProver$Folk" "above" "[I" ∈ GW := mwq (tb1 _ (List.mem_of_getElem? (i := 173) (by decide +kernel))) (by decide +kernel)
theorem mw145 : Cond.fieldLink RX9 294 "KinProver$Folk" "above" "[I" ∈ GW := mwq (tb1 _ (List.mem_of_getElem? (i := 174) (by decide +kernel))) (by decide +kernel)
theorem mw146 : Cond.fieldLink RX1 33 "KinProver$Folk" "spouses" "[I" ∈ GW := mwq (tb1 _ (List.mem_of_getElem? (i := 175) (by decide +kernel))) (by decide +kernel)
theorem mw147 : Cond.fieldLink RX9 291 "KinProver$Folk" "spouses" "[I" ∈ GW := mwq (tb1 _ (List.mem_of_getElem? (i := 176) (by decide +kernel))) (by decide +kernel)
theorem mw148 : Cond.fieldLink RX1 36 "KinProver$Folk" "marriages" "[I" ∈ GW := mwq (tb1 _ (List.mem_of_getElem? (i := 177) (by decide +kernel))) (by decide +kernel)
theorem mw149 : Cond.fieldLink RX1 39 "KinProver$Folk" "generations" "[I" ∈ GW := mwq (tb1 _ (List.mem_of_getElem? (i := 178) (by decide +kernel))) (by decide +kernel)
theorem mw150 : Cond.fieldLink RX1 111 "KinProver$Folk" "ring" "Z" ∈ GW := mwq (tb1 _ (List.mem_of_getElem? (i := 179) (by decide +kernel))) (by decide +kernel)
theorem mw151 : Cond.lays RX1 "KinProver$Folk" "count" "I" ∈ GW := mwq (tb1 _ (List.mem_of_getElem? (i := 180) (by decide +kernel))) (by decide +kernel)
theorem mw152 : Cond.lays RX1 "KinProver$Folk" "all" "I" ∈ GW := mwq (tb1 _ (List.mem_of_getElem? (i := 182) (by decide +kernel))) (by decide +kernel)
theorem mw153 : Cond.laysFinal RX1 "KinProver$Folk" "group" "[I" ∈ GW := mwq (tb1 _ (List.mem_of_getElem? (i := 184) (by decide +kernel))) (by decide +kernel)
theorem mw154 : Cond.laysFinal RX1 "KinProver$Folk" "sizes" "[I" ∈ GW := mwq (tb1 _ (List.mem_of_getElem? (i := 186) (by decide +kernel))) (by decide +kernel)
theorem mw155 : Cond.laysFinal RX1 "KinProver$Folk" "sexes" "[I" ∈ GW := mwq (tb1 _ (List.mem_of_getElem? (i := 188) (by decide +kernel))) (by decide +kernel)
theorem mw156 : Cond.laysFinal RX1 "KinProver$Folk" "mothers" "[I" ∈ GW := mwq (tb1 _ (List.mem_of_getElem? (i := 190) (by decide +kernel))) (by decide +kernel)
theorem mw157 : Cond.laysFinal RX1 "KinProver$Folk" "fathers" "[I" ∈ GW := mwq (tb1 _ (List.mem_of_getElem? (i := 192) (by decide +kernel))) (by decide +kernel)
theorem mw158 : Cond.laysFinal RX1 "KinProver$Folk" "parents" "[I" ∈ GW := mwq (tb1 _ (List.mem_of_getElem? (i := 194) (by decide +kernel))) (by decide +kernel)
theorem mw159 : Cond.laysFinal RX1 "KinProver$Folk" "above" "[I" ∈ GW := mwq (tb1 _ (List.mem_of_getElem? (i := 196) (by decide +kernel))) (by decide +kernel)
theorem mw160 : Cond.laysFinal RX1 "KinProver$Folk" "spouses" "[I" ∈ GW := mwq (tb1 _ (List.mem_of_getElem? (i := 198) (by decide +kernel))) (by decide +kernel)
theorem mw161 : Cond.laysFinal RX1 "KinProver$Folk" "marriages" "[I" ∈ GW := mwq (tb1 _ (List.mem_of_getElem? (i := 200) (by decide +kernel))) (by decide +kernel)
theorem mw162 : Cond.laysFinal RX1 "KinProver$Folk" "generations" "[I" ∈ GW := mwq (tb1 _ (List.mem_of_getElem? (i := 202) (by decide +kernel))) (by decide +kernel)
theorem mw163 : Cond.lays RX1 "KinProver$Folk" "ring" "Z" ∈ GW := mwq (tb1 _ (List.mem_of_getElem? (i := 204) (by decide +kernel))) (by decide +kernel)
theorem mw164 : Cond.classLink RX8 22 RX3 ∈ GW := mwq (tb1 _ (List.mem_of_getElem? (i := 207) (by decide +kernel))) (by decide +kernel)
theorem mw165 : Cond.instantiable RX3 12 ∈ GW := mwq (tb1 _ (List.mem_of_getElem? (i := 208) (by decide +kernel))) (by decide +kernel)
theorem mw166 : Cond.instanceMethod yX3_init ∈ GW := mwq (tb1 _ (List.mem_of_getElem? (i := 210) (by decide +kernel))) (by decide +kernel)
theorem mw167 : Cond.code yX3_init cX3_init 1 none ∈ GW := mwq (tb1 _ (List.mem_of_getElem? (i := 211) (by decide +kernel))) (by decide +kernel)
theorem mw168 : Cond.methodLink RX3 3 objectInit ∈ GW := mwq (tb1 _ (List.mem_of_getElem? (i := 212) (by decide +kernel))) (by decide +kernel)
theorem mw169 : Cond.fieldLink RX3 9 "KinProver$Ranges" "years" "[I" ∈ GW := mwq (tb1 _ (List.mem_of_getElem? (i := 213) (by decide +kernel))) (by decide +kernel)
theorem mw170 : Cond.fieldLink RX8 101 "KinProver$Ranges" "years" "[I" ∈ GW := mwq (tb1 _ (List.mem_of_getElem? (i := 214) (by decide +kernel))) (by decide +kernel)
theorem mw171 : Cond.fieldLink RX9 185 "KinProver$Ranges" "years" "[I" ∈ GW := mwq (tb1 _ (List.mem_of_getElem? (i := 215) (by decide +kernel))) (by decide +kernel)
theorem mw172 : Cond.fieldLink RX3 15 "KinProver$Ranges" "restRules" "[I" ∈ GW := mwq (tb1 _ (List.mem_of_getElem? (i := 216) (by decide +kernel))) (by decide +kernel)
theorem mw173 : Cond.fieldLink RX3 18 "KinProver$Ranges" "restEnds" "[I" ∈ GW := mwq (tb1 _ (List.mem_of_getElem? (i := 217) (by decide +kernel))) (by decide +kernel)
theorem mw174 : Cond.fieldLink RX3 21 "KinProver$Ranges" "xs" "[I" ∈ GW := mwq (tb1 _ (List.mem_of_getElem? (i := 218) (by decide +kernel))) (by decide +kernel)
theorem mw175 : Cond.fieldLink RX3 24 "KinProver$Ranges" "ys" "[I" ∈ GW := mwq (tb1 _ (List.mem_of_getElem? (i := 219) (by decide +kernel))) (by decide +kernel)
theorem mw176 : Cond.fieldLink RX3 27 "KinProver$Ranges" "froms" "[I" ∈ GW := mwq (tb1 _ (List.mem_of_getElem? (i := 220) (by decide +kernel))) (by decide +kernel)
theorem mw177 : Cond.fieldLink RX3 30 "KinProver$Ranges" "tos" "[I" ∈ GW := mwq (tb1 _ (List.mem_of_getElem? (i := 221) (by decide +kernel))) (by decide +kernel)
theorem mw178 : Cond.fieldLink RX3 33 "KinProver$Ranges" "rules" "[I" ∈ GW := mwq (tb1 _ (List.mem_of_getElem? (i := 222) (by decide +kernel))) (by decide +kernel)
theorem mw179 : Cond.fieldLink RX3 36 "KinProver$Ranges" "count" "I" ∈ GW := mwq (tb1 _ (List.mem_of_getElem? (i := 223) (by decide +kernel))) (by decide +kernel)
theorem mw180 : Cond.fieldLink RX3 40 "KinProver$Ranges" "rounds" "I" ∈ GW := mwq (tb1 _ (List.mem_of_getElem? (i := 224) (by decide +kernel))) (by decide +kernel)
theorem mw181 : Cond.fieldLink RX9 234 "KinProver$Ranges" "rounds" "I" ∈ GW := mwq (tb1 _ (List.mem_of_getElem? (i := 225) (by decide +kernel))) (by decide +kernel)
theorem mw182 : Cond.fieldLink RX3 43 "KinProver$Ranges" "empty" "I" ∈ GW := mwq (tb1 _ (List.mem_of_getElem? (i := 226) (by decide +kernel))) (by decide +kernel)
theorem mw183 : Cond.fieldLink RX8 91 "KinProver$Ranges" "empty" "I" ∈ GW := mwq (tb1 _ (List.mem_of_getElem? (i := 227) (by decide +kernel))) (by decide +kernel)
theorem mw184 : Cond.fieldLink RX9 211 "KinProver$Ranges" "empty" "I" ∈ GW := mwq (tb1 _ (List.mem_of_getElem? (i := 228) (by decide +kernel))) (by decide +kernel)
theorem mw185 : Cond.fieldLink RX3 89 "KinProver$Ranges" "changed" "Z" ∈ GW := mwq (tb1 _ (List.mem_of_getElem? (i := 229) (by decide +kernel))) (by decide +kernel)
theorem mw186 : Cond.laysFinal RX3 "KinProver$Ranges" "years" "[I" ∈ GW := mwq (tb1 _ (List.mem_of_getElem? (i := 230) (by decide +kernel))) (by decide +kernel)
theorem mw187 : Cond.laysFinal RX3 "KinProver$Ranges" "restRules" "[I" ∈ GW := mwq (tb1 _ (List.mem_of_getElem? (i := 232) (by decide +kernel))) (by decide +kernel)
theorem mw188 : Cond.laysFinal RX3 "KinProver$Ranges" "restEnds" "[I" ∈ GW := mwq (tb1 _ (List.mem_of_getElem? (i := 234) (by decide +kernel))) (by decide +kernel)
theorem mw189 : Cond.laysFinal RX3 "KinProver$Ranges" "xs" "[I" ∈ GW := mwq (tb1 _ (List.mem_of_getElem? (i := 236) (by decide +kernel))) (by decide +kernel)
theorem mw190 : Cond.laysFinal RX3 "KinProver$Ranges" "ys" "[I" ∈ GW := mwq (tb1 _ (List.mem_of_getElem? (i := 238) (by decide +kernel))) (by decide +kernel)
theorem mw191 : Cond.laysFinal RX3 "KinProver$Ranges" "froms" "[I" ∈ GW := mwq (tb2 _ (List.mem_of_getElem? (i := 0) (by decide +kernel))) (by decide +kernel)
theorem mw192 : Cond.laysFinal RX3 "KinProver$Ranges" "tos" "[I" ∈ GW := mwq (tb2 _ (List.mem_of_getElem? (i := 2) (by decide +kernel))) (by decide +kernel)
theorem mw193 : Cond.laysFinal RX3 "KinProver$Ranges" "rules" "[I" ∈ GW := mwq (tb2 _ (List.mem_of_getElem? (i := 4) (by decide +kernel))) (by decide +kernel)
theorem mw194 : Cond.lays RX3 "KinProver$Ranges" "count" "I" ∈ GW := mwq (tb2 _ (List.mem_of_getElem? (i := 6) (by decide +kernel))) (by decide +kernel)
theorem mw195 : Cond.lays RX3 "KinProver$Ranges" "rounds" "I" ∈ GW := mwq (tb2 _ (List.mem_of_getElem? (i := 8) (by decide +kernel))) (by decide +kernel)
theorem mw196 : Cond.lays RX3 "KinProver$Ranges" "empty" "I" ∈ GW := mwq (tb2 _ (List.mem_of_getElem? (i := 10) (by decide +kernel))) (by decide +kernel)
theorem mw197 : Cond.lays RX3 "KinProver$Ranges" "changed" "Z" ∈ GW := mwq (tb2 _ (List.mem_of_getElem? (i := 12) (by decide +kernel))) (by decide +kernel)
theorem mw198 : Cond.fieldLink RX8 9 "KinProver$World" "said" "[I" ∈ GW := mwq (tb2 _ (List.mem_of_getElem? (i := 15) (by decide +kernel))) (by decide +kernel)
theorem mw199 : Cond.fieldLink RX9 353 "KinProver$World" "said" "[I" ∈ GW := mwq (tb2 _ (List.mem_of_getElem? (i := 16) (by decide +kernel))) (by decide +kernel)
theorem mw200 : Cond.fieldLink RX8 32 "KinProver$World" "saidCount" "I" ∈ GW := mwq (tb2 _ (List.mem_of_getElem? (i := 17) (by decide +kernel))) (by decide +kernel)
theorem mw201 : Cond.fieldLink RX9 306 "KinProver$World" "saidCount" "I" ∈ GW := mwq (tb2 _ (List.mem_of_getElem? (i := 18) (by decide +kernel))) (by decide +kernel)
theorem mw202 : Cond.fieldLink RX8 18 "KinProver$World" "folk" "LKinProver$Folk;" ∈ GW := mwq (tb2 _ (List.mem_of_getElem? (i := 19) (by decide +kernel))) (by decide +kernel)
theorem mw203 : Cond.fieldLink RX9 164 "KinProver$World" "folk" "LKinProver$Folk;" ∈ GW := mwq (tb2 _ (List.mem_of_getElem? (i := 20) (by decide +kernel))) (by decide +kernel)
theorem mw204 : Cond.fieldLink RX8 25 "KinProver$World" "ranges" "LKinProver$Ranges;" ∈ GW := mwq (tb2 _ (List.mem_of_getElem? (i := 21) (by decide +kernel))) (by decide +kernel)
theorem mw205 : Cond.fieldLink RX9 181 "KinProver$World" "ranges" "LKinProver$Ranges;" ∈ GW := mwq (tb2 _ (List.mem_of_getElem? (i := 22) (by decide +kernel))) (by decide +kernel)
theorem mw206 : Cond.fieldLink RX8 48 "KinProver$World" "clash" "I" ∈ GW := mwq (tb2 _ (List.mem_of_getElem? (i := 23) (by decide +kernel))) (by decide +kernel)
theorem mw207 : Cond.fieldLink RX9 205 "KinProver$World" "clash" "I" ∈ GW := mwq (tb2 _ (List.mem_of_getElem? (i := 24) (by decide +kernel))) (by decide +kernel)
theorem mw208 : Cond.fieldLink RX8 51 "KinProver$World" "clashing" "I" ∈ GW := mwq (tb2 _ (List.mem_of_getElem? (i := 25) (by decide +kernel))) (by decide +kernel)
theorem mw209 : Cond.fieldLink RX8 29 "KinProver$World" "order" "[I" ∈ GW := mwq (tb2 _ (List.mem_of_getElem? (i := 26) (by decide +kernel))) (by decide +kernel)
theorem mw210 : Cond.fieldLink RX9 303 "KinProver$World" "order" "[I" ∈ GW := mwq (tb2 _ (List.mem_of_getElem? (i := 27) (by decide +kernel))) (by decide +kernel)
theorem mw211 : Cond.laysFinal RX8 "KinProver$World" "said" "[I" ∈ GW := mwq (tb2 _ (List.mem_of_getElem? (i := 28) (by decide +kernel))) (by decide +kernel)
theorem mw212 : Cond.lays RX8 "KinProver$World" "saidCount" "I" ∈ GW := mwq (tb2 _ (List.mem_of_getElem? (i := 30) (by decide +kernel))) (by decide +kernel)
theorem mw213 : Cond.laysFinal RX8 "KinProver$World" "folk" "LKinProver$Folk;" ∈ GW := mwq (tb2 _ (List.mem_of_getElem? (i := 32) (by decide +kernel))) (by decide +kernel)
theorem mw214 : Cond.laysFinal RX8 "KinProver$World" "ranges" "LKinProver$Ranges;" ∈ GW := mwq (tb2 _ (List.mem_of_getElem? (i := 34) (by decide +kernel))) (by decide +kernel)
theorem mw215 : Cond.lays RX8 "KinProver$World" "clash" "I" ∈ GW := mwq (tb2 _ (List.mem_of_getElem? (i := 36) (by decide +kernel))) (by decide +kernel)
theorem mw216 : Cond.lays RX8 "KinProver$World" "clashing" "I" ∈ GW := mwq (tb2 _ (List.mem_of_getElem? (i := 38) (by decide +kernel))) (by decide +kernel)
theorem mw217 : Cond.laysFinal RX8 "KinProver$World" "order" "[I" ∈ GW := mwq (tb2 _ (List.mem_of_getElem? (i := 40) (by decide +kernel))) (by decide +kernel)
theorem mw218 : Cond.classLink RX9 54 RX7 ∈ GW := mwq (tb2 _ (List.mem_of_getElem? (i := 43) (by decide +kernel))) (by decide +kernel)
theorem mw219 : Cond.instantiable RX7 5 ∈ GW := mwq (tb2 _ (List.mem_of_getElem? (i := 44) (by decide +kernel))) (by decide +kernel)
theorem mw220 : Cond.instanceMethod yX7_init ∈ GW := mwq (tb2 _ (List.mem_of_getElem? (i := 46) (by decide +kernel))) (by decide +kernel)
theorem mw221 : Cond.code yX7_init cX7_init 1 none ∈ GW := mwq (tb2 _ (List.mem_of_getElem? (i := 47) (by decide +kernel))) (by decide +kernel)
theorem mw222 : Cond.methodLink RX7 3 objectInit ∈ GW := mwq (tb2 _ (List.mem_of_getElem? (i := 48) (by decide +kernel))) (by decide +kernel)
theorem mw223 : Cond.fieldLink RX7 9 "KinProver$Ways" "stepsA" "[I" ∈ GW := mwq (tb2 _ (List.mem_of_getElem? (i := 49) (by decide +kernel))) (by decide +kernel)
theorem mw224 : Cond.fieldLink RX7 15 "KinProver$Ways" "stepsB" "[I" ∈ GW := mwq (tb2 _ (List.mem_of_getElem? (i := 50) (by decide +kernel))) (by decide +kernel)
theorem mw225 : Cond.fieldLink RX7 22 "KinProver$Ways" "common" "I" ∈ GW := mwq (tb2 _ (List.mem_of_getElem? (i := 51) (by decide +kernel))) (by decide +kernel)
theorem mw226 : Cond.fieldLink RX9 240 "KinProver$Ways" "common" "I" ∈ GW := mwq (tb2 _ (List.mem_of_getElem? (i := 52) (by decide +kernel))) (by decide +kernel)
theorem mw227 : Cond.fieldLink RX6 9 "KinProver$Ways" "up" "I" ∈ GW := mwq (tb2 _ (List.mem_of_getElem? (i := 53) (by decide +kernel))) (by decide +kernel)
theorem mw228 : Cond.fieldLink RX7 30 "KinProver$Ways" "up" "I" ∈ GW := mwq (tb2 _ (List.mem_of_getElem? (i := 54) (by decide +kernel))) (by decide +kernel)
theorem mw229 : Cond.fieldLink RX9 243 "KinProver$Ways" "up" "I" ∈ GW := mwq (tb2 _ (List.mem_of_getElem? (i := 55) (by decide +kernel))) (by decide +kernel)
theorem mw230 : Cond.fieldLink RX6 15 "KinProver$Ways" "down" "I" ∈ GW := mwq (tb2 _ (List.mem_of_getElem? (i := 56) (by decide +kernel))) (by decide +kernel)
theorem mw231 : Cond.fieldLink RX7 33 "KinProver$Ways" "down" "I" ∈ GW := mwq (tb2 _ (List.mem_of_getElem? (i := 57) (by decide +kernel))) (by decide +kernel)
theorem mw232 : Cond.fieldLink RX9 246 "KinProver$Ways" "down" "I" ∈ GW := mwq (tb2 _ (List.mem_of_getElem? (i := 58) (by decide +kernel))) (by decide +kernel)
theorem mw233 : Cond.laysFinal RX7 "KinProver$Ways" "stepsA" "[I" ∈ GW := mwq (tb2 _ (List.mem_of_getElem? (i := 59) (by decide +kernel))) (by decide +kernel)
theorem mw234 : Cond.laysFinal RX7 "KinProver$Ways" "stepsB" "[I" ∈ GW := mwq (tb2 _ (List.mem_of_getElem? (i := 61) (by decide +kernel))) (by decide +kernel)
theorem mw235 : Cond.lays RX7 "KinProver$Ways" "common" "I" ∈ GW := mwq (tb2 _ (List.mem_of_getElem? (i := 63) (by decide +kernel))) (by decide +kernel)
theorem mw236 : Cond.lays RX7 "KinProver$Ways" "up" "I" ∈ GW := mwq (tb2 _ (List.mem_of_getElem? (i := 65) (by decide +kernel))) (by decide +kernel)
theorem mw237 : Cond.lays RX7 "KinProver$Ways" "down" "I" ∈ GW := mwq (tb2 _ (List.mem_of_getElem? (i := 67) (by decide +kernel))) (by decide +kernel)
theorem mw238 : Cond.classLink RX9 61 RX2 ∈ GW := mwq (tb2 _ (List.mem_of_getElem? (i := 70) (by decide +kernel))) (by decide +kernel)
theorem mw239 : Cond.instantiable RX2 2 ∈ GW := mwq (tb2 _ (List.mem_of_getElem? (i := 71) (by decide +kernel))) (by decide +kernel)
theorem mw240 : Cond.instanceMethod yX2_init ∈ GW := mwq (tb2 _ (List.mem_of_getElem? (i := 73) (by decide +kernel))) (by decide +kernel)
theorem mw241 : Cond.code yX2_init cX2_init 1 none ∈ GW := mwq (tb2 _ (List.mem_of_getElem? (i := 74) (by decide +kernel))) (by decide +kernel)
theorem mw242 : Cond.methodLink RX2 1 objectInit ∈ GW := mwq (tb2 _ (List.mem_of_getElem? (i := 75) (by decide +kernel))) (by decide +kernel)
theorem mw243 : Cond.classLink RX2 9 "[[I" ∈ GW := mwq (tb2 _ (List.mem_of_getElem? (i := 76) (by decide +kernel))) (by decide +kernel)
theorem mw244 : Cond.fieldLink RX2 11 "KinProver$Lists" "rows" "[[I" ∈ GW := mwq (tb2 _ (List.mem_of_getElem? (i := 78) (by decide +kernel))) (by decide +kernel)
theorem mw245 : Cond.fieldLink RX9 327 "KinProver$Lists" "rows" "[[I" ∈ GW := mwq (tb2 _ (List.mem_of_getElem? (i := 79) (by decide +kernel))) (by decide +kernel)
theorem mw246 : Cond.fieldLink RX2 14 "KinProver$Lists" "sizes" "[I" ∈ GW := mwq (tb2 _ (List.mem_of_getElem? (i := 80) (by decide +kernel))) (by decide +kernel)
theorem mw247 : Cond.fieldLink RX9 321 "KinProver$Lists" "sizes" "[I" ∈ GW := mwq (tb2 _ (List.mem_of_getElem? (i := 81) (by decide +kernel))) (by decide +kernel)
theorem mw248 : Cond.laysFinal RX2 "KinProver$Lists" "rows" "[[I" ∈ GW := mwq (tb2 _ (List.mem_of_getElem? (i := 82) (by decide +kernel))) (by decide +kernel)
theorem mw249 : Cond.laysFinal RX2 "KinProver$Lists" "sizes" "[I" ∈ GW := mwq (tb2 _ (List.mem_of_getElem? (i := 84) (by decide +kernel))) (by decide +kernel)
theorem mw250 : Cond.fieldLink RX9 14 "KinProver" "book" "LKinProver$Book;" ∈ GW := mwq (tb2 _ (List.mem_of_getElem? (i := 87) (by decide +kernel))) (by decide +kernel)
theorem mw251 : Cond.fieldLink RX9 18 "KinProver" "kept" "LKinProver$Book;" ∈ GW := mwq (tb2 _ (List.mem_of_getElem? (i := 88) (by decide +kernel))) (by decide +kernel)
theorem mw252 : Cond.fieldLink RX9 335 "KinProver" "keeping" "Z" ∈ GW := mwq (tb2 _ (List.mem_of_getElem? (i := 89) (by decide +kernel))) (by decide +kernel)
theorem mw253 : Cond.fieldLink RX9 26 "KinProver" "tape" "LKinProver$Text;" ∈ GW := mwq (tb2 _ (List.mem_of_getElem? (i := 90) (by decide +kernel))) (by decide +kernel)
theorem mw254 : Cond.fieldLink RX9 30 "KinProver" "paper" "LKinProver$Text;" ∈ GW := mwq (tb2 _ (List.mem_of_getElem? (i := 91) (by decide +kernel))) (by decide +kernel)
theorem mw255 : Cond.fieldLink RX9 36 "KinProver" "reader" "LKinProver$Reader;" ∈ GW := mwq (tb2 _ (List.mem_of_getElem? (i := 92) (by decide +kernel))) (by decide +kernel)
theorem mw256 : Cond.fieldLink RX9 43 "KinProver" "now" "LKinProver$World;" ∈ GW := mwq (tb2 _ (List.mem_of_getElem? (i := 93) (by decide +kernel))) (by decide +kernel)
theorem mw257 : Cond.fieldLink RX9 47 "KinProver" "thought" "LKinProver$World;" ∈ GW := mwq (tb2 _ (List.mem_of_getElem? (i := 94) (by decide +kernel))) (by decide +kernel)
theorem mw258 : Cond.fieldLink RX9 339 "KinProver" "settled" "Z" ∈ GW := mwq (tb2 _ (List.mem_of_getElem? (i := 95) (by decide +kernel))) (by decide +kernel)
theorem mw259 : Cond.fieldLink RX9 50 "KinProver" "culprits" "[I" ∈ GW := mwq (tb2 _ (List.mem_of_getElem? (i := 96) (by decide +kernel))) (by decide +kernel)
theorem mw260 : Cond.fieldLink RX9 217 "KinProver" "culpritCount" "I" ∈ GW := mwq (tb2 _ (List.mem_of_getElem? (i := 97) (by decide +kernel))) (by decide +kernel)
theorem mw261 : Cond.fieldLink RX9 342 "KinProver" "culpritsSettled" "Z" ∈ GW := mwq (tb2 _ (List.mem_of_getElem? (i := 98) (by decide +kernel))) (by decide +kernel)
theorem mw262 : Cond.fieldLink RX9 57 "KinProver" "ways" "LKinProver$Ways;" ∈ GW := mwq (tb2 _ (List.mem_of_getElem? (i := 99) (by decide +kernel))) (by decide +kernel)
theorem mw263 : Cond.fieldLink RX9 64 "KinProver" "lists" "LKinProver$Lists;" ∈ GW := mwq (tb2 _ (List.mem_of_getElem? (i := 100) (by decide +kernel))) (by decide +kernel)
theorem mw264 : Cond.laysFinal RX9 "KinProver" "book" "LKinProver$Book;" ∈ GW := mwq (tb2 _ (List.mem_of_getElem? (i := 101) (by decide +kernel))) (by decide +kernel)
theorem mw265 : Cond.laysFinal RX9 "KinProver" "kept" "LKinProver$Book;" ∈ GW := mwq (tb2 _ (List.mem_of_getElem? (i := 103) (by decide +kernel))) (by decide +kernel)
theorem mw266 : Cond.lays RX9 "KinProver" "keeping" "Z" ∈ GW := mwq (tb2 _ (List.mem_of_getElem? (i := 105) (by decide +kernel))) (by decide +kernel)
theorem mw267 : Cond.laysFinal RX9 "KinProver" "tape" "LKinProver$Text;" ∈ GW := mwq (tb2 _ (List.mem_of_getElem? (i := 107) (by decide +kernel))) (by decide +kernel)
theorem mw268 : Cond.laysFinal RX9 "KinProver" "paper" "LKinProver$Text;" ∈ GW := mwq (tb2 _ (List.mem_of_getElem? (i := 109) (by decide +kernel))) (by decide +kernel)
theorem mw269 : Cond.laysFinal RX9 "KinProver" "reader" "LKinProver$Reader;" ∈ GW := mwq (tb2 _ (List.mem_of_getElem? (i := 111) (by decide +kernel))) (by decide +kernel)
theorem mw270 : Cond.laysFinal RX9 "KinProver" "now" "LKinProver$World;" ∈ GW := mwq (tb2 _ (List.mem_of_getElem? (i := 113) (by decide +kernel))) (by decide +kernel)
theorem mw271 : Cond.laysFinal RX9 "KinProver" "thought" "LKinProver$World;" ∈ GW := mwq (tb2 _ (List.mem_of_getElem? (i := 115) (by decide +kernel))) (by decide +kernel)
theorem mw272 : Cond.lays RX9 "KinProver" "settled" "Z" ∈ GW := mwq (tb2 _ (List.mem_of_getElem? (i := 117) (by decide +kernel))) (by decide +kernel)
theorem mw273 : Cond.laysFinal RX9 "KinProver" "culprits" "[I" ∈ GW := mwq (tb2 _ (List.mem_of_getElem? (i := 119) (by decide +kernel))) (by decide +kernel)
theorem mw274 : Cond.lays RX9 "KinProver" "culpritCount" "I" ∈ GW := mwq (tb2 _ (List.mem_of_getElem? (i := 121) (by decide +kernel))) (by decide +kernel)
theorem mw275 : Cond.lays RX9 "KinProver" "culpritsSettled" "Z" ∈ GW := mwq (tb2 _ (List.mem_of_getElem? (i := 123) (by decide +kernel))) (by decide +kernel)
theorem mw276 : Cond.laysFinal RX9 "KinProver" "ways" "LKinProver$Ways;" ∈ GW := mwq (tb2 _ (List.mem_of_getElem? (i := 125) (by decide +kernel))) (by decide +kernel)
theorem mw277 : Cond.laysFinal RX9 "KinProver" "lists" "LKinProver$Lists;" ∈ GW := mwq (tb2 _ (List.mem_of_getElem? (i := 127) (by decide +kernel))) (by decide +kernel)
theorem mw278 : Cond.methodLink RL 13 yX9_feed ∈ GW := mwq (tb2 _ (List.mem_of_getElem? (i := 130) (by decide +kernel))) (by decide +kernel)
theorem mw279 : Cond.instanceMethod yX9_feed ∈ GW := mwq (tb2 _ (List.mem_of_getElem? (i := 131) (by decide +kernel))) (by decide +kernel)
theorem mw280 : Cond.selects RX9 yX9_feed yX9_feed ∈ GW := mwq (tb2 _ (List.mem_of_getElem? (i := 132) (by decide +kernel))) (by decide +kernel)
theorem mw281 : Cond.code yX9_feed cX9_feed 2 (some .int) ∈ GW := mwq (tb2 _ (List.mem_of_getElem? (i := 133) (by decide +kernel))) (by decide +kernel)
theorem mw282 : Cond.methodLink RX9 72 yX5_put ∈ GW := mwq (tb2 _ (List.mem_of_getElem? (i := 134) (by decide +kernel))) (by decide +kernel)
theorem mw283 : Cond.instanceMethod yX5_put ∈ GW := mwq (tb2 _ (List.mem_of_getElem? (i := 135) (by decide +kernel))) (by decide +kernel)
theorem mw284 : Cond.selects RX5 yX5_put yX5_put ∈ GW := mwq (tb2 _ (List.mem_of_getElem? (i := 136) (by decide +kernel))) (by decide +kernel)
theorem mw285 : Cond.code yX5_put cX5_put 2 none ∈ GW := mwq (tb2 _ (List.mem_of_getElem? (i := 137) (by decide +kernel))) (by decide +kernel)
theorem mw286 : Cond.methodLink RL 18 yX9_clear ∈ GW := mwq (tb2 _ (List.mem_of_getElem? (i := 138) (by decide +kernel))) (by decide +kernel)
theorem mw287 : Cond.instanceMethod yX9_clear ∈ GW := mwq (tb2 _ (List.mem_of_getElem? (i := 139) (by decide +kernel))) (by decide +kernel)
theorem mw288 : Cond.selects RX9 yX9_clear yX9_clear ∈ GW := mwq (tb2 _ (List.mem_of_getElem? (i := 140) (by decide +kernel))) (by decide +kernel)
theorem mw289 : Cond.code yX9_clear cX9_clear 2 (some .int) ∈ GW := mwq (tb2 _ (List.mem_of_getElem? (i := 141) (by decide +kernel))) (by decide +kernel)
theorem mw290 : Cond.methodLink RX9 75 yX5_wipe ∈ GW := mwq (tb2 _ (List.mem_of_getElem? (i := 142) (by decide +kernel))) (by decide +kernel)
theorem mw291 : Cond.instanceMethod yX5_wipe ∈ GW := mwq (tb2 _ (List.mem_of_getElem? (i := 143) (by decide +kernel))) (by decide +kernel)
theorem mw292 : Cond.selects RX5 yX5_wipe yX5_wipe ∈ GW := mwq (tb2 _ (List.mem_of_getElem? (i := 144) (by decide +kernel))) (by decide +kernel)
theorem mw293 : Cond.code yX5_wipe cX5_wipe 1 none ∈ GW := mwq (tb2 _ (List.mem_of_getElem? (i := 145) (by decide +kernel))) (by decide +kernel)
theorem mw294 : Cond.methodLink RL 23 yX9_paper ∈ GW := mwq (tb2 _ (List.mem_of_getElem? (i := 146) (by decide +kernel))) (by decide +kernel)
theorem mw295 : Cond.instanceMethod yX9_paper ∈ GW := mwq (tb2 _ (List.mem_of_getElem? (i := 147) (by decide +kernel))) (by decide +kernel)
theorem mw296 : Cond.selects RX9 yX9_paper yX9_paper ∈ GW := mwq (tb2 _ (List.mem_of_getElem? (i := 148) (by decide +kernel))) (by decide +kernel)
theorem mw297 : Cond.code yX9_paper cX9_paper 2 (some .int) ∈ GW := mwq (tb2 _ (List.mem_of_getElem? (i := 149) (by decide +kernel))) (by decide +kernel)
theorem mw298 : Cond.methodLink RX9 78 yX5_at ∈ GW := mwq (tb2 _ (List.mem_of_getElem? (i := 150) (by decide +kernel))) (by decide +kernel)
theorem mw299 : Cond.instanceMethod yX5_at ∈ GW := mwq (tb2 _ (List.mem_of_getElem? (i := 151) (by decide +kernel))) (by decide +kernel)
theorem mw300 : Cond.selects RX5 yX5_at yX5_at ∈ GW := mwq (tb2 _ (List.mem_of_getElem? (i := 152) (by decide +kernel))) (by decide +kernel)
theorem mw301 : Cond.code yX5_at cX5_at 2 (some .int) ∈ GW := mwq (tb2 _ (List.mem_of_getElem? (i := 153) (by decide +kernel))) (by decide +kernel)
theorem mw302 : Cond.methodLink RL 27 yX9_person ∈ GW := mwq (tb2 _ (List.mem_of_getElem? (i := 154) (by decide +kernel))) (by decide +kernel)
theorem mw303 : Cond.instanceMethod yX9_person ∈ GW := mwq (tb2 _ (List.mem_of_getElem? (i := 155) (by decide +kernel))) (by decide +kernel)
theorem mw304 : Cond.selects RX9 yX9_person yX9_person ∈ GW := mwq (tb2 _ (List.mem_of_getElem? (i := 156) (by decide +kernel))) (by decide +kernel)
theorem mw305 : Cond.code yX9_person cX9_person 4 (some .int) ∈ GW := mwq (tb2 _ (List.mem_of_getElem? (i := 157) (by decide +kernel))) (by decide +kernel)
theorem mw306 : Cond.methodLink RX9 82 yX9_isSex ∈ GW := mwq (tb2 _ (List.mem_of_getElem? (i := 158) (by decide +kernel))) (by decide +kernel)
theorem mw307 : Cond.static yX9_isSex ∈ GW := mwq (tb2 _ (List.mem_of_getElem? (i := 159) (by decide +kernel))) (by decide +kernel)
theorem mw308 : Cond.code yX9_isSex cX9_isSex 1 (some .boolean) ∈ GW := mwq (tb2 _ (List.mem_of_getElem? (i := 160) (by decide +kernel))) (by decide +kernel)
theorem mw309 : Cond.methodLink RX9 89 yX5_nameFault ∈ GW := mwq (tb2 _ (List.mem_of_getElem? (i := 161) (by decide +kernel))) (by decide +kernel)
theorem mw310 : Cond.instanceMethod yX5_nameFault ∈ GW := mwq (tb2 _ (List.mem_of_getElem? (i := 162) (by decide +kernel))) (by decide +kernel)
theorem mw311 : Cond.selects RX5 yX5_nameFault yX5_nameFault ∈ GW := mwq (tb2 _ (List.mem_of_getElem? (i := 163) (by decide +kernel))) (by decide +kernel)
theorem mw312 : Cond.code yX5_nameFault cX5_nameFault 2 (some .int) ∈ GW := mwq (tb2 _ (List.mem_of_getElem? (i := 164) (by decide +kernel))) (by decide +kernel)
theorem mw313 : Cond.methodLink RX9 93 yX0_addPerson ∈ GW := mwq (tb2 _ (List.mem_of_getElem? (i := 165) (by decide +kernel))) (by decide +kernel)
theorem mw314 : Cond.instanceMethod yX0_addPerson ∈ GW := mwq (tb2 _ (List.mem_of_getElem? (i := 166) (by decide +kernel))) (by decide +kernel)
theorem mw315 : Cond.selects RX0 yX0_addPerson yX0_addPerson ∈ GW := mwq (tb2 _ (List.mem_of_getElem? (i := 167) (by decide +kernel))) (by decide +kernel)
theorem mw316 : Cond.code yX0_addPerson cX0_addPerson 4 none ∈ GW := mwq (tb2 _ (List.mem_of_getElem? (i := 168) (by decide +kernel))) (by decide +kernel)
theorem mw317 : Cond.methodLink RX9 97 yX9_unsettle ∈ GW := mwq (tb2 _ (List.mem_of_getElem? (i := 169) (by decide +kernel))) (by decide +kernel)
theorem mw318 : Cond.instanceMethod yX9_unsettle ∈ GW := mwq (tb2 _ (List.mem_of_getElem? (i := 171) (by decide +kernel))) (by decide +kernel)
theorem mw319 : Cond.code yX9_unsettle cX9_unsettle 1 none ∈ GW := mwq (tb2 _ (List.mem_of_getElem? (i := 172) (by decide +kernel))) (by decide +kernel)
theorem mw320 : Cond.methodLink RL 31 yX9_sex ∈ GW := mwq (tb2 _ (List.mem_of_getElem? (i := 173) (by decide +kernel))) (by decide +kernel)
theorem mw321 : Cond.instanceMethod yX9_sex ∈ GW := mwq (tb2 _ (List.mem_of_getElem? (i := 174) (by decide +kernel))) (by decide +kernel)
theorem mw322 : Cond.selects RX9 yX9_sex yX9_sex ∈ GW := mwq (tb2 _ (List.mem_of_getElem? (i := 175) (by decide +kernel))) (by decide +kernel)
theorem mw323 : Cond.code yX9_sex cX9_sex 4 (some .int) ∈ GW := mwq (tb2 _ (List.mem_of_getElem? (i := 176) (by decide +kernel))) (by decide +kernel)
theorem mw324 : Cond.methodLink RX9 100 yX0_isPerson ∈ GW := mwq (tb2 _ (List.mem_of_getElem? (i := 177) (by decide +kernel))) (by decide +kernel)
theorem mw325 : Cond.instanceMethod yX0_isPerson ∈ GW := mwq (tb2 _ (List.mem_of_getElem? (i := 178) (by decide +kernel))) (by decide +kernel)
theorem mw326 : Cond.selects RX0 yX0_isPerson yX0_isPerson ∈ GW := mwq (tb2 _ (List.mem_of_getElem? (i := 179) (by decide +kernel))) (by decide +kernel)
theorem mw327 : Cond.code yX0_isPerson cX0_isPerson 2 (some .boolean) ∈ GW := mwq (tb2 _ (List.mem_of_getElem? (i := 180) (by decide +kernel))) (by decide +kernel)
theorem mw328 : Cond.methodLink RL 36 yX9_state ∈ GW := mwq (tb2 _ (List.mem_of_getElem? (i := 181) (by decide +kernel))) (by decide +kernel)
theorem mw329 : Cond.instanceMethod yX9_state ∈ GW := mwq (tb2 _ (List.mem_of_getElem? (i := 182) (by decide +kernel))) (by decide +kernel)
theorem mw330 : Cond.selects RX9 yX9_state yX9_state ∈ GW := mwq (tb2 _ (List.mem_of_getElem? (i := 183) (by decide +kernel))) (by decide +kernel)
theorem mw331 : Cond.code yX9_state cX9_state 4 (some .int) ∈ GW := mwq (tb2 _ (List.mem_of_getElem? (i := 184) (by decide +kernel))) (by decide +kernel)
theorem mw332 : Cond.methodLink RX9 106 yX9_isFlag ∈ GW := mwq (tb2 _ (List.mem_of_getElem? (i := 185) (by decide +kernel))) (by decide +kernel)
theorem mw333 : Cond.static yX9_isFlag ∈ GW := mwq (tb2 _ (List.mem_of_getElem? (i := 186) (by decide +kernel))) (by decide +kernel)
theorem mw334 : Cond.code yX9_isFlag cX9_isFlag 1 (some .boolean) ∈ GW := mwq (tb2 _ (List.mem_of_getElem? (i := 187) (by decide +kernel))) (by decide +kernel)
theorem mw335 : Cond.methodLink RX9 112 yX4_reads ∈ GW := mwq (tb2 _ (List.mem_of_getElem? (i := 188) (by decide +kernel))) (by decide +kernel)
theorem mw336 : Cond.instanceMethod yX4_reads ∈ GW := mwq (tb2 _ (List.mem_of_getElem? (i := 189) (by decide +kernel))) (by decide +kernel)
theorem mw337 : Cond.selects RX4 yX4_reads yX4_reads ∈ GW := mwq (tb2 _ (List.mem_of_getElem? (i := 190) (by decide +kernel))) (by decide +kernel)
theorem mw338 : Cond.code yX4_reads cX4_reads 3 (some .boolean) ∈ GW := mwq (tb2 _ (List.mem_of_getElem? (i := 191) (by decide +kernel))) (by decide +kernel)
theorem mw339 : Cond.methodLink RX4 38 yX5_at ∈ GW := mwq (tb2 _ (List.mem_of_getElem? (i := 192) (by decide +kernel))) (by decide +kernel)
theorem mw340 : Cond.methodLink RX4 44 yX4_sortOf ∈ GW := mwq (tb2 _ (List.mem_of_getElem? (i := 193) (by decide +kernel))) (by decide +kernel)
theorem mw341 : Cond.static yX4_sortOf ∈ GW := mwq (tb2 _ (List.mem_of_getElem? (i := 194) (by decide +kernel))) (by decide +kernel)
theorem mw342 : Cond.code yX4_sortOf cX4_sortOf 2 (some .int) ∈ GW := mwq (tb2 _ (List.mem_of_getElem? (i := 195) (by decide +kernel))) (by decide +kernel)
theorem mw343 : Cond.fieldLink RX4 15 "KinProver$Reader" "LETTERS" "[C" ∈ GW := mwq (tb2 _ (List.mem_of_getElem? (i := 196) (by decide +kernel))) (by decide +kernel)
theorem mw344 : Cond.methodLink RX4 50 yX4_takeNumber ∈ GW := mwq (tb2 _ (List.mem_of_getElem? (i := 198) (by decide +kernel))) (by decide +kernel)
theorem mw345 : Cond.instanceMethod yX4_takeNumber ∈ GW := mwq (tb2 _ (List.mem_of_getElem? (i := 200) (by decide +kernel))) (by decide +kernel)
theorem mw346 : Cond.code yX4_takeNumber cX4_takeNumber 6 (some .int) ∈ GW := mwq (tb2 _ (List.mem_of_getElem? (i := 201) (by decide +kernel))) (by decide +kernel)
theorem mw347 : Cond.methodLink RX4 66 yX5_isFigure ∈ GW := mwq (tb2 _ (List.mem_of_getElem? (i := 202) (by decide +kernel))) (by decide +kernel)
theorem mw348 : Cond.instanceMethod yX5_isFigure ∈ GW := mwq (tb2 _ (List.mem_of_getElem? (i := 203) (by decide +kernel))) (by decide +kernel)
theorem mw349 : Cond.selects RX5 yX5_isFigure yX5_isFigure ∈ GW := mwq (tb2 _ (List.mem_of_getElem? (i := 204) (by decide +kernel))) (by decide +kernel)
theorem mw350 : Cond.code yX5_isFigure cX5_isFigure 3 (some .boolean) ∈ GW := mwq (tb2 _ (List.mem_of_getElem? (i := 205) (by decide +kernel))) (by decide +kernel)
theorem mw351 : Cond.methodLink RX5 32 yX5_at ∈ GW := mwq (tb2 _ (List.mem_of_getElem? (i := 206) (by decide +kernel))) (by decide +kernel)
theorem mw352 : Cond.methodLink RX4 54 yX4_tellsTwo ∈ GW := mwq (tb2 _ (List.mem_of_getElem? (i := 207) (by decide +kernel))) (by decide +kernel)
theorem mw353 : Cond.static yX4_tellsTwo ∈ GW := mwq (tb2 _ (List.mem_of_getElem? (i := 208) (by decide +kernel))) (by decide +kernel)
theorem mw354 : Cond.code yX4_tellsTwo cX4_tellsTwo 1 (some .boolean) ∈ GW := mwq (tb2 _ (List.mem_of_getElem? (i := 209) (by decide +kernel))) (by decide +kernel)
theorem mw355 : Cond.methodLink RX4 60 yX4_tellsLow ∈ GW := mwq (tb2 _ (List.mem_of_getElem? (i := 210) (by decide +kernel))) (by decide +kernel)
theorem mw356 : Cond.static yX4_tellsLow ∈ GW := mwq (tb2 _ (List.mem_of_getElem? (i := 211) (by decide +kernel))) (by decide +kernel)
theorem mw357 : Cond.code yX4_tellsLow cX4_tellsLow 1 (some .boolean) ∈ GW := mwq (tb2 _ (List.mem_of_getElem? (i := 212) (by decide +kernel))) (by decide +kernel)
theorem mw358 : Cond.methodLink RX4 9 yX4_tellsHigh ∈ GW := mwq (tb2 _ (List.mem_of_getElem? (i := 213) (by decide +kernel))) (by decide +kernel)
theorem mw359 : Cond.static yX4_tellsHigh ∈ GW := mwq (tb2 _ (List.mem_of_getElem? (i := 214) (by decide +kernel))) (by decide +kernel)
theorem mw360 : Cond.code yX4_tellsHigh cX4_tellsHigh 1 (some .boolean) ∈ GW := mwq (tb2 _ (List.mem_of_getElem? (i := 215) (by decide +kernel))) (by decide +kernel)
theorem mw361 : Cond.methodLink RX9 119 yX0_write ∈ GW := mwq (tb2 _ (List.mem_of_getElem? (i := 216) (by decide +kernel))) (by decide +kernel)
theorem mw362 : Cond.instanceMethod yX0_write ∈ GW := mwq (tb2 _ (List.mem_of_getElem? (i := 217) (by decide +kernel))) (by decide +kernel)
theorem mw363 : Cond.selects RX0 yX0_write yX0_write ∈ GW := mwq (tb2 _ (List.mem_of_getElem? (i := 218) (by decide +kernel))) (by decide +kernel)
theorem mw364 : Cond.code yX0_write cX0_write 4 none ∈ GW := mwq (tb2 _ (List.mem_of_getElem? (i := 219) (by decide +kernel))) (by decide +kernel)
theorem mw365 : Cond.methodLink RL 40 yX9_live ∈ GW := mwq (tb2 _ (List.mem_of_getElem? (i := 220) (by decide +kernel))) (by decide +kernel)
theorem mw366 : Cond.instanceMethod yX9_live ∈ GW := mwq (tb2 _ (List.mem_of_getElem? (i := 221) (by decide +kernel))) (by decide +kernel)
theorem mw367 : Cond.selects RX9 yX9_live yX9_live ∈ GW := mwq (tb2 _ (List.mem_of_getElem? (i := 222) (by decide +kernel))) (by decide +kernel)
theorem mw368 : Cond.code yX9_live cX9_live 4 (some .int) ∈ GW := mwq (tb2 _ (List.mem_of_getElem? (i := 223) (by decide +kernel))) (by decide +kernel)
theorem mw369 : Cond.methodLink RX9 123 yX0_isStatement ∈ GW := mwq (tb2 _ (List.mem_of_getElem? (i := 224) (by decide +kernel))) (by decide +kernel)
theorem mw370 : Cond.instanceMethod yX0_isStatement ∈ GW := mwq (tb2 _ (List.mem_of_getElem? (i := 225) (by decide +kernel))) (by decide +kernel)
theorem mw371 : Cond.selects RX0 yX0_isStatement yX0_isStatement ∈ GW := mwq (tb2 _ (List.mem_of_getElem? (i := 226) (by decide +kernel))) (by decide +kernel)
theorem mw372 : Cond.code yX0_isStatement cX0_isStatement 2 (some .boolean) ∈ GW := mwq (tb2 _ (List.mem_of_getElem? (i := 227) (by decide +kernel))) (by decide +kernel)
theorem mw373 : Cond.methodLink RL 44 yX9_of ∈ GW := mwq (tb2 _ (List.mem_of_getElem? (i := 228) (by decide +kernel))) (by decide +kernel)
theorem mw374 : Cond.instanceMethod yX9_of ∈ GW := mwq (tb2 _ (List.mem_of_getElem? (i := 229) (by decide +kernel))) (by decide +kernel)
theorem mw375 : Cond.selects RX9 yX9_of yX9_of ∈ GW := mwq (tb2 _ (List.mem_of_getElem? (i := 230) (by decide +kernel))) (by decide +kernel)
theorem mw376 : Cond.code yX9_of cX9_of 3 (some .int) ∈ GW := mwq (tb2 _ (List.mem_of_getElem? (i := 231) (by decide +kernel))) (by decide +kernel)
theorem mw377 : Cond.methodLink RL 48 yX9_spell ∈ GW := mwq (tb2 _ (List.mem_of_getElem? (i := 232) (by decide +kernel))) (by decide +kernel)
theorem mw378 : Cond.instanceMethod yX9_spell ∈ GW := mwq (tb2 _ (List.mem_of_getElem? (i := 233) (by decide +kernel))) (by decide +kernel)
theorem mw379 : Cond.selects RX9 yX9_spell yX9_spell ∈ GW := mwq (tb2 _ (List.mem_of_getElem? (i := 234) (by decide +kernel))) (by decide +kernel)
theorem mw380 : Cond.code yX9_spell cX9_spell 2 (some .int) ∈ GW := mwq (tb2 _ (List.mem_of_getElem? (i := 235) (by decide +kernel))) (by decide +kernel)
theorem mw381 : Cond.methodLink RX9 144 yX0_spellInto ∈ GW := mwq (tb2 _ (List.mem_of_getElem? (i := 236) (by decide +kernel))) (by decide +kernel)
theorem mw382 : Cond.instanceMethod yX0_spellInto ∈ GW := mwq (tb2 _ (List.mem_of_getElem? (i := 237) (by decide +kernel))) (by decide +kernel)
theorem mw383 : Cond.selects RX0 yX0_spellInto yX0_spellInto ∈ GW := mwq (tb2 _ (List.mem_of_getElem? (i := 238) (by decide +kernel))) (by decide +kernel)
theorem mw384 : Cond.code yX0_spellInto cX0_spellInto 3 none ∈ GW := mwq (tb2 _ (List.mem_of_getElem? (i := 239) (by decide +kernel))) (by decide +kernel)
theorem mw385 : Cond.methodLink RX0 80 yX4_letterOf ∈ GW := mwq (tb3 _ (List.mem_of_getElem? (i := 0) (by decide +kernel))) (by decide +kernel)
theorem mw386 : Cond.static yX4_letterOf ∈ GW := mwq (tb3 _ (List.mem_of_getElem? (i := 1) (by decide +kernel))) (by decide +kernel)
theorem mw387 : Cond.code yX4_letterOf cX4_letterOf 1 (some .int) ∈ GW := mwq (tb3 _ (List.mem_of_getElem? (i := 2) (by decide +kernel))) (by decide +kernel)
theorem mw388 : Cond.methodLink RX0 84 yX5_put ∈ GW := mwq (tb3 _ (List.mem_of_getElem? (i := 3) (by decide +kernel))) (by decide +kernel)
theorem mw389 : Cond.methodLink RX0 88 yX0_spellNumber ∈ GW := mwq (tb3 _ (List.mem_of_getElem? (i := 4) (by decide +kernel))) (by decide +kernel)
theorem mw390 : Cond.static yX0_spellNumber ∈ GW := mwq (tb3 _ (List.mem_of_getElem? (i := 5) (by decide +kernel))) (by decide +kernel)
theorem mw391 : Cond.code yX0_spellNumber cX0_spellNumber 2 none ∈ GW := mwq (tb3 _ (List.mem_of_getElem? (i := 6) (by decide +kernel))) (by decide +kernel)
theorem mw392 : Cond.methodLink RX0 92 yX5_putNumber ∈ GW := mwq (tb3 _ (List.mem_of_getElem? (i := 7) (by decide +kernel))) (by decide +kernel)
theorem mw393 : Cond.instanceMethod yX5_putNumber ∈ GW := mwq (tb3 _ (List.mem_of_getElem? (i := 8) (by decide +kernel))) (by decide +kernel)
theorem mw394 : Cond.selects RX5 yX5_putNumber yX5_putNumber ∈ GW := mwq (tb3 _ (List.mem_of_getElem? (i := 9) (by decide +kernel))) (by decide +kernel)
theorem mw395 : Cond.code yX5_putNumber cX5_putNumber 2 none ∈ GW := mwq (tb3 _ (List.mem_of_getElem? (i := 10) (by decide +kernel))) (by decide +kernel)
theorem mw396 : Cond.methodLink RX5 28 yX5_put ∈ GW := mwq (tb3 _ (List.mem_of_getElem? (i := 11) (by decide +kernel))) (by decide +kernel)
theorem mw397 : Cond.methodLink RL 52 yX9_name ∈ GW := mwq (tb3 _ (List.mem_of_getElem? (i := 12) (by decide +kernel))) (by decide +kernel)
theorem mw398 : Cond.instanceMethod yX9_name ∈ GW := mwq (tb3 _ (List.mem_of_getElem? (i := 13) (by decide +kernel))) (by decide +kernel)
theorem mw399 : Cond.selects RX9 yX9_name yX9_name ∈ GW := mwq (tb3 _ (List.mem_of_getElem? (i := 14) (by decide +kernel))) (by decide +kernel)
theorem mw400 : Cond.code yX9_name cX9_name 4 (some .int) ∈ GW := mwq (tb3 _ (List.mem_of_getElem? (i := 15) (by decide +kernel))) (by decide +kernel)
theorem mw401 : Cond.methodLink RL 56 yX9_find ∈ GW := mwq (tb3 _ (List.mem_of_getElem? (i := 16) (by decide +kernel))) (by decide +kernel)
theorem mw402 : Cond.instanceMethod yX9_find ∈ GW := mwq (tb3 _ (List.mem_of_getElem? (i := 17) (by decide +kernel))) (by decide +kernel)
theorem mw403 : Cond.selects RX9 yX9_find yX9_find ∈ GW := mwq (tb3 _ (List.mem_of_getElem? (i := 18) (by decide +kernel))) (by decide +kernel)
theorem mw404 : Cond.code yX9_find cX9_find 3 (some .int) ∈ GW := mwq (tb3 _ (List.mem_of_getElem? (i := 19) (by decide +kernel))) (by decide +kernel)
theorem mw405 : Cond.methodLink RX9 154 yX0_findNamed ∈ GW := mwq (tb3 _ (List.mem_of_getElem? (i := 20) (by decide +kernel))) (by decide +kernel)
theorem mw406 : Cond.instanceMethod yX0_findNamed ∈ GW := mwq (tb3 _ (List.mem_of_getElem? (i := 21) (by decide +kernel))) (by decide +kernel)
theorem mw407 : Cond.selects RX0 yX0_findNamed yX0_findNamed ∈ GW := mwq (tb3 _ (List.mem_of_getElem? (i := 22) (by decide +kernel))) (by decide +kernel)
theorem mw408 : Cond.code yX0_findNamed cX0_findNamed 5 (some .int) ∈ GW := mwq (tb3 _ (List.mem_of_getElem? (i := 23) (by decide +kernel))) (by decide +kernel)
theorem mw409 : Cond.methodLink RX0 95 yX0_isNamed ∈ GW := mwq (tb3 _ (List.mem_of_getElem? (i := 24) (by decide +kernel))) (by decide +kernel)
theorem mw410 : Cond.instanceMethod yX0_isNamed ∈ GW := mwq (tb3 _ (List.mem_of_getElem? (i := 26) (by decide +kernel))) (by decide +kernel)
theorem mw411 : Cond.code yX0_isNamed cX0_isNamed 4 (some .boolean) ∈ GW := mwq (tb3 _ (List.mem_of_getElem? (i := 27) (by decide +kernel))) (by decide +kernel)
theorem mw412 : Cond.methodLink RX0 99 yX5_at ∈ GW := mwq (tb3 _ (List.mem_of_getElem? (i := 28) (by decide +kernel))) (by decide +kernel)
theorem mw413 : Cond.methodLink RL 60 yX9_byName ∈ GW := mwq (tb3 _ (List.mem_of_getElem? (i := 29) (by decide +kernel))) (by decide +kernel)
theorem mw414 : Cond.instanceMethod yX9_byName ∈ GW := mwq (tb3 _ (List.mem_of_getElem? (i := 30) (by decide +kernel))) (by decide +kernel)
theorem mw415 : Cond.selects RX9 yX9_byName yX9_byName ∈ GW := mwq (tb3 _ (List.mem_of_getElem? (i := 31) (by decide +kernel))) (by decide +kernel)
theorem mw416 : Cond.code yX9_byName cX9_byName 3 (some .int) ∈ GW := mwq (tb3 _ (List.mem_of_getElem? (i := 32) (by decide +kernel))) (by decide +kernel)
theorem mw417 : Cond.methodLink RX9 158 yX0_placeByName ∈ GW := mwq (tb3 _ (List.mem_of_getElem? (i := 33) (by decide +kernel))) (by decide +kernel)
theorem mw418 : Cond.instanceMethod yX0_placeByName ∈ GW := mwq (tb3 _ (List.mem_of_getElem? (i := 34) (by decide +kernel))) (by decide +kernel)
theorem mw419 : Cond.selects RX0 yX0_placeByName yX0_placeByName ∈ GW := mwq (tb3 _ (List.mem_of_getElem? (i := 35) (by decide +kernel))) (by decide +kernel)
theorem mw420 : Cond.code yX0_placeByName cX0_placeByName 5 (some .int) ∈ GW := mwq (tb3 _ (List.mem_of_getElem? (i := 36) (by decide +kernel))) (by decide +kernel)
theorem mw421 : Cond.methodLink RX0 102 yX0_compareNames ∈ GW := mwq (tb3 _ (List.mem_of_getElem? (i := 37) (by decide +kernel))) (by decide +kernel)
theorem mw422 : Cond.instanceMethod yX0_compareNames ∈ GW := mwq (tb3 _ (List.mem_of_getElem? (i := 39) (by decide +kernel))) (by decide +kernel)
theorem mw423 : Cond.code yX0_compareNames cX0_compareNames 4 (some .int) ∈ GW := mwq (tb3 _ (List.mem_of_getElem? (i := 40) (by decide +kernel))) (by decide +kernel)
theorem mw424 : Cond.methodLink RL 64 yX9_people ∈ GW := mwq (tb3 _ (List.mem_of_getElem? (i := 41) (by decide +kernel))) (by decide +kernel)
theorem mw425 : Cond.instanceMethod yX9_people ∈ GW := mwq (tb3 _ (List.mem_of_getElem? (i := 42) (by decide +kernel))) (by decide +kernel)
theorem mw426 : Cond.selects RX9 yX9_people yX9_people ∈ GW := mwq (tb3 _ (List.mem_of_getElem? (i := 43) (by decide +kernel))) (by decide +kernel)
theorem mw427 : Cond.code yX9_people cX9_people 3 (some .int) ∈ GW := mwq (tb3 _ (List.mem_of_getElem? (i := 44) (by decide +kernel))) (by decide +kernel)
theorem mw428 : Cond.methodLink RX9 161 yX9_settle ∈ GW := mwq (tb3 _ (List.mem_of_getElem? (i := 45) (by decide +kernel))) (by decide +kernel)
theorem mw429 : Cond.instanceMethod yX9_settle ∈ GW := mwq (tb3 _ (List.mem_of_getElem? (i := 47) (by decide +kernel))) (by decide +kernel)
theorem mw430 : Cond.code yX9_settle cX9_settle 1 none ∈ GW := mwq (tb3 _ (List.mem_of_getElem? (i := 48) (by decide +kernel))) (by decide +kernel)
theorem mw431 : Cond.constant RX9 345 (Int32.ofInt (1000000)) ∈ GW := mwq (tb3 _ (List.mem_of_getElem? (i := 49) (by decide +kernel))) (by decide +kernel)
theorem mw432 : Cond.methodLink RX9 346 yX8_work ∈ GW := mwq (tb3 _ (List.mem_of_getElem? (i := 50) (by decide +kernel))) (by decide +kernel)
theorem mw433 : Cond.instanceMethod yX8_work ∈ GW := mwq (tb3 _ (List.mem_of_getElem? (i := 51) (by decide +kernel))) (by decide +kernel)
theorem mw434 : Cond.selects RX8 yX8_work yX8_work ∈ GW := mwq (tb3 _ (List.mem_of_getElem? (i := 52) (by decide +kernel))) (by decide +kernel)
theorem mw435 : Cond.code yX8_work cX8_work 6 none ∈ GW := mwq (tb3 _ (List.mem_of_getElem? (i := 53) (by decide +kernel))) (by decide +kernel)
theorem mw436 : Cond.methodLink RX8 41 yX1_gather ∈ GW := mwq (tb3 _ (List.mem_of_getElem? (i := 54) (by decide +kernel))) (by decide +kernel)
theorem mw437 : Cond.instanceMethod yX1_gather ∈ GW := mwq (tb3 _ (List.mem_of_getElem? (i := 55) (by decide +kernel))) (by decide +kernel)
theorem mw438 : Cond.selects RX1 yX1_gather yX1_gather ∈ GW := mwq (tb3 _ (List.mem_of_getElem? (i := 56) (by decide +kernel))) (by decide +kernel)
theorem mw439 : Cond.code yX1_gather cX1_gather 6 none ∈ GW := mwq (tb3 _ (List.mem_of_getElem? (i := 57) (by decide +kernel))) (by decide +kernel)
theorem mw440 : Cond.methodLink RX1 46 yX1_wipe ∈ GW := mwq (tb3 _ (List.mem_of_getElem? (i := 58) (by decide +kernel))) (by decide +kernel)
theorem mw441 : Cond.instanceMethod yX1_wipe ∈ GW := mwq (tb3 _ (List.mem_of_getElem? (i := 60) (by decide +kernel))) (by decide +kernel)
theorem mw442 : Cond.code yX1_wipe cX1_wipe 2 none ∈ GW := mwq (tb3 _ (List.mem_of_getElem? (i := 61) (by decide +kernel))) (by decide +kernel)
theorem mw443 : Cond.methodLink RX1 49 yX1_joinSames ∈ GW := mwq (tb3 _ (List.mem_of_getElem? (i := 62) (by decide +kernel))) (by decide +kernel)
theorem mw444 : Cond.instanceMethod yX1_joinSames ∈ GW := mwq (tb3 _ (List.mem_of_getElem? (i := 64) (by decide +kernel))) (by decide +kernel)
theorem mw445 : Cond.code yX1_joinSames cX1_joinSames 8 none ∈ GW := mwq (tb3 _ (List.mem_of_getElem? (i := 65) (by decide +kernel))) (by decide +kernel)
theorem mw446 : Cond.methodLink RX1 88 Lib.Math.max.name ∈ GW := mwq (tb3 _ (List.mem_of_getElem? (i := 66) (by decide +kernel))) (by decide +kernel)
theorem mw447 : Cond.static Lib.Math.max.name ∈ GW := mwq (tb3 _ (List.mem_of_getElem? (i := 67) (by decide +kernel))) (by decide +kernel)
theorem mw448 : Cond.code Lib.Math.max.name cJ9_max_7cf53 2 (some .int) ∈ GW := mwq (tb3 _ (List.mem_of_getElem? (i := 68) (by decide +kernel))) (by decide +kernel)
theorem mw449 : Cond.methodLink RX1 94 Lib.Math.min.name ∈ GW := mwq (tb3 _ (List.mem_of_getElem? (i := 69) (by decide +kernel))) (by decide +kernel)
theorem mw450 : Cond.static Lib.Math.min.name ∈ GW := mwq (tb3 _ (List.mem_of_getElem? (i := 70) (by decide +kernel))) (by decide +kernel)
theorem mw451 : Cond.code Lib.Math.min.name cJ9_min_7cf53 2 (some .int) ∈ GW := mwq (tb3 _ (List.mem_of_getElem? (i := 71) (by decide +kernel))) (by decide +kernel)
theorem mw452 : Cond.methodLink RX1 97 yX1_rename ∈ GW := mwq (tb3 _ (List.mem_of_getElem? (i := 72) (by decide +kernel))) (by decide +kernel)
theorem mw453 : Cond.instanceMethod yX1_rename ∈ GW := mwq (tb3 _ (List.mem_of_getElem? (i := 74) (by decide +kernel))) (by decide +kernel)
theorem mw454 : Cond.code yX1_rename cX1_rename 5 none ∈ GW := mwq (tb3 _ (List.mem_of_getElem? (i := 75) (by decide +kernel))) (by decide +kernel)
theorem mw455 : Cond.methodLink RX1 63 yJ6_bitCount_0f7a4 ∈ GW := mwq (tb3 _ (List.mem_of_getElem? (i := 76) (by decide +kernel))) (by decide +kernel)
theorem mw456 : Cond.static yJ6_bitCount_0f7a4 ∈ GW := mwq (tb3 _ (List.mem_of_getElem? (i := 77) (by decide +kernel))) (by decide +kernel)
theorem mw457 : Cond.code yJ6_bitCount_0f7a4 cJ6_bitCount_0f7a4 1 (some .int) ∈ GW := mwq (tb3 _ (List.mem_of_getElem? (i := 78) (by decide +kernel))) (by decide +kernel)
theorem mw458 : Cond.constant RJ6 265 (Int32.ofInt (1431655765)) ∈ GW := mwq (tb3 _ (List.mem_of_getElem? (i := 79) (by decide +kernel))) (by decide +kernel)
theorem mw459 : Cond.constant RJ6 266 (Int32.ofInt (858993459)) ∈ GW := mwq (tb3 _ (List.mem_of_getElem? (i := 80) (by decide +kernel))) (by decide +kernel)
theorem mw460 : Cond.constant RJ6 267 (Int32.ofInt (252645135)) ∈ GW := mwq (tb3 _ (List.mem_of_getElem? (i := 81) (by decide +kernel))) (by decide +kernel)
theorem mw461 : Cond.methodLink RX1 72 yX1_hear ∈ GW := mwq (tb3 _ (List.mem_of_getElem? (i := 82) (by decide +kernel))) (by decide +kernel)
theorem mw462 : Cond.instanceMethod yX1_hear ∈ GW := mwq (tb3 _ (List.mem_of_getElem? (i := 84) (by decide +kernel))) (by decide +kernel)
theorem mw463 : Cond.code yX1_hear cX1_hear 6 none ∈ GW := mwq (tb3 _ (List.mem_of_getElem? (i := 85) (by decide +kernel))) (by decide +kernel)
theorem mw464 : Cond.methodLink RX1 76 yX1_climb ∈ GW := mwq (tb3 _ (List.mem_of_getElem? (i := 86) (by decide +kernel))) (by decide +kernel)
theorem mw465 : Cond.instanceMethod yX1_climb ∈ GW := mwq (tb3 _ (List.mem_of_getElem? (i := 88) (by decide +kernel))) (by decide +kernel)
theorem mw466 : Cond.code yX1_climb cX1_climb 5 none ∈ GW := mwq (tb3 _ (List.mem_of_getElem? (i := 89) (by decide +kernel))) (by decide +kernel)
theorem mw467 : Cond.methodLink RX1 101 arraycopyName ∈ GW := mwq (tb3 _ (List.mem_of_getElem? (i := 90) (by decide +kernel))) (by decide +kernel)
theorem mw468 : Cond.static arraycopyName ∈ GW := mwq (tb3 _ (List.mem_of_getElem? (i := 91) (by decide +kernel))) (by decide +kernel)
theorem mw469 : Cond.native arraycopyName ∈ GW := mwq (tb3 _ (List.mem_of_getElem? (i := 92) (by decide +kernel))) (by decide +kernel)
theorem mw470 : Cond.methodLink RX1 42 yX1_has ∈ GW := mwq (tb3 _ (List.mem_of_getElem? (i := 93) (by decide +kernel))) (by decide +kernel)
theorem mw471 : Cond.static yX1_has ∈ GW := mwq (tb3 _ (List.mem_of_getElem? (i := 94) (by decide +kernel))) (by decide +kernel)
theorem mw472 : Cond.code yX1_has cX1_has 2 (some .boolean) ∈ GW := mwq (tb3 _ (List.mem_of_getElem? (i := 95) (by decide +kernel))) (by decide +kernel)
theorem mw473 : Cond.methodLink RX1 107 yX1_leastRing ∈ GW := mwq (tb3 _ (List.mem_of_getElem? (i := 96) (by decide +kernel))) (by decide +kernel)
theorem mw474 : Cond.instanceMethod yX1_leastRing ∈ GW := mwq (tb3 _ (List.mem_of_getElem? (i := 97) (by decide +kernel))) (by decide +kernel)
theorem mw475 : Cond.selects RX1 yX1_leastRing yX1_leastRing ∈ GW := mwq (tb3 _ (List.mem_of_getElem? (i := 98) (by decide +kernel))) (by decide +kernel)
theorem mw476 : Cond.code yX1_leastRing cX1_leastRing 2 (some .int) ∈ GW := mwq (tb3 _ (List.mem_of_getElem? (i := 99) (by decide +kernel))) (by decide +kernel)
theorem mw477 : Cond.methodLink RX1 115 yX1_generationOver ∈ GW := mwq (tb3 _ (List.mem_of_getElem? (i := 100) (by decide +kernel))) (by decide +kernel)
theorem mw478 : Cond.instanceMethod yX1_generationOver ∈ GW := mwq (tb3 _ (List.mem_of_getElem? (i := 102) (by decide +kernel))) (by decide +kernel)
theorem mw479 : Cond.code yX1_generationOver cX1_generationOver 4 (some .int) ∈ GW := mwq (tb3 _ (List.mem_of_getElem? (i := 103) (by decide +kernel))) (by decide +kernel)
theorem mw480 : Cond.methodLink RX8 45 yX3_wipe ∈ GW := mwq (tb3 _ (List.mem_of_getElem? (i := 104) (by decide +kernel))) (by decide +kernel)
theorem mw481 : Cond.instanceMethod yX3_wipe ∈ GW := mwq (tb3 _ (List.mem_of_getElem? (i := 105) (by decide +kernel))) (by decide +kernel)
theorem mw482 : Cond.selects RX3 yX3_wipe yX3_wipe ∈ GW := mwq (tb3 _ (List.mem_of_getElem? (i := 106) (by decide +kernel))) (by decide +kernel)
theorem mw483 : Cond.code yX3_wipe cX3_wipe 2 none ∈ GW := mwq (tb3 _ (List.mem_of_getElem? (i := 107) (by decide +kernel))) (by decide +kernel)
theorem mw484 : Cond.methodLink RX8 54 yX1_leastOfBothSexes ∈ GW := mwq (tb3 _ (List.mem_of_getElem? (i := 108) (by decide +kernel))) (by decide +kernel)
theorem mw485 : Cond.instanceMethod yX1_leastOfBothSexes ∈ GW := mwq (tb3 _ (List.mem_of_getElem? (i := 109) (by decide +kernel))) (by decide +kernel)
theorem mw486 : Cond.selects RX1 yX1_leastOfBothSexes yX1_leastOfBothSexes ∈ GW := mwq (tb3 _ (List.mem_of_getElem? (i := 110) (by decide +kernel))) (by decide +kernel)
theorem mw487 : Cond.code yX1_leastOfBothSexes cX1_leastOfBothSexes 2 (some .int) ∈ GW := mwq (tb3 _ (List.mem_of_getElem? (i := 111) (by decide +kernel))) (by decide +kernel)
theorem mw488 : Cond.methodLink RX8 58 yX8_note ∈ GW := mwq (tb3 _ (List.mem_of_getElem? (i := 112) (by decide +kernel))) (by decide +kernel)
theorem mw489 : Cond.instanceMethod yX8_note ∈ GW := mwq (tb3 _ (List.mem_of_getElem? (i := 114) (by decide +kernel))) (by decide +kernel)
theorem mw490 : Cond.code yX8_note cX8_note 3 none ∈ GW := mwq (tb3 _ (List.mem_of_getElem? (i := 115) (by decide +kernel))) (by decide +kernel)
theorem mw491 : Cond.methodLink RX8 62 yX1_leastOfUnlikeParents ∈ GW := mwq (tb3 _ (List.mem_of_getElem? (i := 116) (by decide +kernel))) (by decide +kernel)
theorem mw492 : Cond.instanceMethod yX1_leastOfUnlikeParents ∈ GW := mwq (tb3 _ (List.mem_of_getElem? (i := 117) (by decide +kernel))) (by decide +kernel)
theorem mw493 : Cond.selects RX1 yX1_leastOfUnlikeParents yX1_leastOfUnlikeParents ∈ GW := mwq (tb3 _ (List.mem_of_getElem? (i := 118) (by decide +kernel))) (by decide +kernel)
theorem mw494 : Cond.code yX1_leastOfUnlikeParents cX1_leastOfUnlikeParents 2 (some .int) ∈ GW := mwq (tb3 _ (List.mem_of_getElem? (i := 119) (by decide +kernel))) (by decide +kernel)
theorem mw495 : Cond.methodLink RX8 65 yX1_leastRing ∈ GW := mwq (tb3 _ (List.mem_of_getElem? (i := 120) (by decide +kernel))) (by decide +kernel)
theorem mw496 : Cond.methodLink RX8 68 yX8_takeRules ∈ GW := mwq (tb3 _ (List.mem_of_getElem? (i := 121) (by decide +kernel))) (by decide +kernel)
theorem mw497 : Cond.instanceMethod yX8_takeRules ∈ GW := mwq (tb3 _ (List.mem_of_getElem? (i := 123) (by decide +kernel))) (by decide +kernel)
theorem mw498 : Cond.code yX8_takeRules cX8_takeRules 3 none ∈ GW := mwq (tb3 _ (List.mem_of_getElem? (i := 124) (by decide +kernel))) (by decide +kernel)
theorem mw499 : Cond.methodLink RX8 79 yX1_has ∈ GW := mwq (tb3 _ (List.mem_of_getElem? (i := 125) (by decide +kernel))) (by decide +kernel)
theorem mw500 : Cond.methodLink RX8 83 yX3_takeLife ∈ GW := mwq (tb3 _ (List.mem_of_getElem? (i := 126) (by decide +kernel))) (by decide +kernel)
theorem mw501 : Cond.instanceMethod yX3_takeLife ∈ GW := mwq (tb3 _ (List.mem_of_getElem? (i := 127) (by decide +kernel))) (by decide +kernel)
theorem mw502 : Cond.selects RX3 yX3_takeLife yX3_takeLife ∈ GW := mwq (tb3 _ (List.mem_of_getElem? (i := 128) (by decide +kernel))) (by decide +kernel)
theorem mw503 : Cond.code yX3_takeLife cX3_takeLife 2 none ∈ GW := mwq (tb3 _ (List.mem_of_getElem? (i := 129) (by decide +kernel))) (by decide +kernel)
theorem mw504 : Cond.methodLink RX3 46 yX3_died ∈ GW := mwq (tb3 _ (List.mem_of_getElem? (i := 130) (by decide +kernel))) (by decide +kernel)
theorem mw505 : Cond.static yX3_died ∈ GW := mwq (tb3 _ (List.mem_of_getElem? (i := 131) (by decide +kernel))) (by decide +kernel)
theorem mw506 : Cond.code yX3_died cX3_died 1 (some .int) ∈ GW := mwq (tb3 _ (List.mem_of_getElem? (i := 132) (by decide +kernel))) (by decide +kernel)
theorem mw507 : Cond.methodLink RX3 50 yX3_born ∈ GW := mwq (tb3 _ (List.mem_of_getElem? (i := 133) (by decide +kernel))) (by decide +kernel)
theorem mw508 : Cond.static yX3_born ∈ GW := mwq (tb3 _ (List.mem_of_getElem? (i := 134) (by decide +kernel))) (by decide +kernel)
theorem mw509 : Cond.code yX3_born cX3_born 1 (some .int) ∈ GW := mwq (tb3 _ (List.mem_of_getElem? (i := 135) (by decide +kernel))) (by decide +kernel)
theorem mw510 : Cond.methodLink RX3 53 yX3_addLess ∈ GW := mwq (tb3 _ (List.mem_of_getElem? (i := 136) (by decide +kernel))) (by decide +kernel)
theorem mw511 : Cond.instanceMethod yX3_addLess ∈ GW := mwq (tb3 _ (List.mem_of_getElem? (i := 138) (by decide +kernel))) (by decide +kernel)
theorem mw512 : Cond.code yX3_addLess cX3_addLess 6 none ∈ GW := mwq (tb3 _ (List.mem_of_getElem? (i := 139) (by decide +kernel))) (by decide +kernel)
theorem mw513 : Cond.methodLink RX8 87 yX3_takeStatement ∈ GW := mwq (tb3 _ (List.mem_of_getElem? (i := 140) (by decide +kernel))) (by decide +kernel)
theorem mw514 : Cond.instanceMethod yX3_takeStatement ∈ GW := mwq (tb3 _ (List.mem_of_getElem? (i := 141) (by decide +kernel))) (by decide +kernel)
theorem mw515 : Cond.selects RX3 yX3_takeStatement yX3_takeStatement ∈ GW := mwq (tb3 _ (List.mem_of_getElem? (i := 142) (by decide +kernel))) (by decide +kernel)
theorem mw516 : Cond.code yX3_takeStatement cX3_takeStatement 7 none ∈ GW := mwq (tb3 _ (List.mem_of_getElem? (i := 143) (by decide +kernel))) (by decide +kernel)
theorem mw517 : Cond.methodLink RX3 79 yX3_addIn ∈ GW := mwq (tb3 _ (List.mem_of_getElem? (i := 144) (by decide +kernel))) (by decide +kernel)
theorem mw518 : Cond.instanceMethod yX3_addIn ∈ GW := mwq (tb3 _ (List.mem_of_getElem? (i := 146) (by decide +kernel))) (by decide +kernel)
theorem mw519 : Cond.code yX3_addIn cX3_addIn 5 none ∈ GW := mwq (tb3 _ (List.mem_of_getElem? (i := 147) (by decide +kernel))) (by decide +kernel)
theorem mw520 : Cond.constant RX3 83 (Int32.ofInt (100000)) ∈ GW := mwq (tb3 _ (List.mem_of_getElem? (i := 148) (by decide +kernel))) (by decide +kernel)
theorem mw521 : Cond.methodLink RX3 84 yX3_addMarriedOne ∈ GW := mwq (tb3 _ (List.mem_of_getElem? (i := 149) (by decide +kernel))) (by decide +kernel)
theorem mw522 : Cond.instanceMethod yX3_addMarriedOne ∈ GW := mwq (tb3 _ (List.mem_of_getElem? (i := 151) (by decide +kernel))) (by decide +kernel)
theorem mw523 : Cond.code yX3_addMarriedOne cX3_addMarriedOne 4 none ∈ GW := mwq (tb3 _ (List.mem_of_getElem? (i := 152) (by decide +kernel))) (by decide +kernel)
theorem mw524 : Cond.constant RX3 88 (Int32.ofInt (-100000)) ∈ GW := mwq (tb3 _ (List.mem_of_getElem? (i := 153) (by decide +kernel))) (by decide +kernel)
theorem mw525 : Cond.methodLink RX8 72 yX3_narrow ∈ GW := mwq (tb3 _ (List.mem_of_getElem? (i := 154) (by decide +kernel))) (by decide +kernel)
theorem mw526 : Cond.instanceMethod yX3_narrow ∈ GW := mwq (tb3 _ (List.mem_of_getElem? (i := 155) (by decide +kernel))) (by decide +kernel)
theorem mw527 : Cond.selects RX3 yX3_narrow yX3_narrow ∈ GW := mwq (tb3 _ (List.mem_of_getElem? (i := 156) (by decide +kernel))) (by decide +kernel)
theorem mw528 : Cond.code yX3_narrow cX3_narrow 4 (some .boolean) ∈ GW := mwq (tb3 _ (List.mem_of_getElem? (i := 157) (by decide +kernel))) (by decide +kernel)
theorem mw529 : Cond.methodLink RX3 93 yX3_apply ∈ GW := mwq (tb3 _ (List.mem_of_getElem? (i := 158) (by decide +kernel))) (by decide +kernel)
theorem mw530 : Cond.instanceMethod yX3_apply ∈ GW := mwq (tb3 _ (List.mem_of_getElem? (i := 160) (by decide +kernel))) (by decide +kernel)
theorem mw531 : Cond.code yX3_apply cX3_apply 4 none ∈ GW := mwq (tb3 _ (List.mem_of_getElem? (i := 161) (by decide +kernel))) (by decide +kernel)
theorem mw532 : Cond.methodLink RX3 97 yX3_raise ∈ GW := mwq (tb3 _ (List.mem_of_getElem? (i := 162) (by decide +kernel))) (by decide +kernel)
theorem mw533 : Cond.instanceMethod yX3_raise ∈ GW := mwq (tb3 _ (List.mem_of_getElem? (i := 164) (by decide +kernel))) (by decide +kernel)
theorem mw534 : Cond.code yX3_raise cX3_raise 5 none ∈ GW := mwq (tb3 _ (List.mem_of_getElem? (i := 165) (by decide +kernel))) (by decide +kernel)
theorem mw535 : Cond.methodLink RX3 103 yX3_change ∈ GW := mwq (tb3 _ (List.mem_of_getElem? (i := 166) (by decide +kernel))) (by decide +kernel)
theorem mw536 : Cond.instanceMethod yX3_change ∈ GW := mwq (tb3 _ (List.mem_of_getElem? (i := 168) (by decide +kernel))) (by decide +kernel)
theorem mw537 : Cond.code yX3_change cX3_change 6 none ∈ GW := mwq (tb3 _ (List.mem_of_getElem? (i := 169) (by decide +kernel))) (by decide +kernel)
theorem mw538 : Cond.methodLink RX3 100 yX3_lower ∈ GW := mwq (tb3 _ (List.mem_of_getElem? (i := 170) (by decide +kernel))) (by decide +kernel)
theorem mw539 : Cond.instanceMethod yX3_lower ∈ GW := mwq (tb3 _ (List.mem_of_getElem? (i := 172) (by decide +kernel))) (by decide +kernel)
theorem mw540 : Cond.code yX3_lower cX3_lower 5 none ∈ GW := mwq (tb3 _ (List.mem_of_getElem? (i := 173) (by decide +kernel))) (by decide +kernel)
theorem mw541 : Cond.methodLink RX9 350 yX8_sortPeople ∈ GW := mwq (tb3 _ (List.mem_of_getElem? (i := 174) (by decide +kernel))) (by decide +kernel)
theorem mw542 : Cond.instanceMethod yX8_sortPeople ∈ GW := mwq (tb3 _ (List.mem_of_getElem? (i := 175) (by decide +kernel))) (by decide +kernel)
theorem mw543 : Cond.selects RX8 yX8_sortPeople yX8_sortPeople ∈ GW := mwq (tb3 _ (List.mem_of_getElem? (i := 176) (by decide +kernel))) (by decide +kernel)
theorem mw544 : Cond.code yX8_sortPeople cX8_sortPeople 5 none ∈ GW := mwq (tb3 _ (List.mem_of_getElem? (i := 177) (by decide +kernel))) (by decide +kernel)
theorem mw545 : Cond.methodLink RX8 98 yX8_isBornAhead ∈ GW := mwq (tb3 _ (List.mem_of_getElem? (i := 178) (by decide +kernel))) (by decide +kernel)
theorem mw546 : Cond.instanceMethod yX8_isBornAhead ∈ GW := mwq (tb3 _ (List.mem_of_getElem? (i := 180) (by decide +kernel))) (by decide +kernel)
theorem mw547 : Cond.code yX8_isBornAhead cX8_isBornAhead 4 (some .boolean) ∈ GW := mwq (tb3 _ (List.mem_of_getElem? (i := 181) (by decide +kernel))) (by decide +kernel)
theorem mw548 : Cond.methodLink RX9 173 yX1_tell ∈ GW := mwq (tb3 _ (List.mem_of_getElem? (i := 182) (by decide +kernel))) (by decide +kernel)
theorem mw549 : Cond.instanceMethod yX1_tell ∈ GW := mwq (tb3 _ (List.mem_of_getElem? (i := 183) (by decide +kernel))) (by decide +kernel)
theorem mw550 : Cond.selects RX1 yX1_tell yX1_tell ∈ GW := mwq (tb3 _ (List.mem_of_getElem? (i := 184) (by decide +kernel))) (by decide +kernel)
theorem mw551 : Cond.code yX1_tell cX1_tell 3 (some .int) ∈ GW := mwq (tb3 _ (List.mem_of_getElem? (i := 185) (by decide +kernel))) (by decide +kernel)
theorem mw552 : Cond.methodLink RX1 118 yX1_least ∈ GW := mwq (tb3 _ (List.mem_of_getElem? (i := 186) (by decide +kernel))) (by decide +kernel)
theorem mw553 : Cond.static yX1_least ∈ GW := mwq (tb3 _ (List.mem_of_getElem? (i := 187) (by decide +kernel))) (by decide +kernel)
theorem mw554 : Cond.code yX1_least cX1_least 2 (some .int) ∈ GW := mwq (tb3 _ (List.mem_of_getElem? (i := 188) (by decide +kernel))) (by decide +kernel)
theorem mw555 : Cond.methodLink RX1 121 yX1_children ∈ GW := mwq (tb3 _ (List.mem_of_getElem? (i := 189) (by decide +kernel))) (by decide +kernel)
theorem mw556 : Cond.instanceMethod yX1_children ∈ GW := mwq (tb3 _ (List.mem_of_getElem? (i := 190) (by decide +kernel))) (by decide +kernel)
theorem mw557 : Cond.selects RX1 yX1_children yX1_children ∈ GW := mwq (tb3 _ (List.mem_of_getElem? (i := 191) (by decide +kernel))) (by decide +kernel)
theorem mw558 : Cond.code yX1_children cX1_children 2 (some .int) ∈ GW := mwq (tb3 _ (List.mem_of_getElem? (i := 192) (by decide +kernel))) (by decide +kernel)
theorem mw559 : Cond.methodLink RX1 124 yX1_holders ∈ GW := mwq (tb3 _ (List.mem_of_getElem? (i := 193) (by decide +kernel))) (by decide +kernel)
theorem mw560 : Cond.static yX1_holders ∈ GW := mwq (tb3 _ (List.mem_of_getElem? (i := 194) (by decide +kernel))) (by decide +kernel)
theorem mw561 : Cond.code yX1_holders cX1_holders 4 (some .int) ∈ GW := mwq (tb3 _ (List.mem_of_getElem? (i := 195) (by decide +kernel))) (by decide +kernel)
theorem mw562 : Cond.methodLink RL 68 yX9_end ∈ GW := mwq (tb3 _ (List.mem_of_getElem? (i := 196) (by decide +kernel))) (by decide +kernel)
theorem mw563 : Cond.instanceMethod yX9_end ∈ GW := mwq (tb3 _ (List.mem_of_getElem? (i := 197) (by decide +kernel))) (by decide +kernel)
theorem mw564 : Cond.selects RX9 yX9_end yX9_end ∈ GW := mwq (tb3 _ (List.mem_of_getElem? (i := 198) (by decide +kernel))) (by decide +kernel)
theorem mw565 : Cond.code yX9_end cX9_end 4 (some .int) ∈ GW := mwq (tb3 _ (List.mem_of_getElem? (i := 199) (by decide +kernel))) (by decide +kernel)
theorem mw566 : Cond.methodLink RX9 177 yX9_isEnd ∈ GW := mwq (tb3 _ (List.mem_of_getElem? (i := 200) (by decide +kernel))) (by decide +kernel)
theorem mw567 : Cond.instanceMethod yX9_isEnd ∈ GW := mwq (tb3 _ (List.mem_of_getElem? (i := 202) (by decide +kernel))) (by decide +kernel)
theorem mw568 : Cond.code yX9_isEnd cX9_isEnd 4 (some .boolean) ∈ GW := mwq (tb3 _ (List.mem_of_getElem? (i := 203) (by decide +kernel))) (by decide +kernel)
theorem mw569 : Cond.methodLink RX9 190 yX9_personEnd ∈ GW := mwq (tb3 _ (List.mem_of_getElem? (i := 204) (by decide +kernel))) (by decide +kernel)
theorem mw570 : Cond.static yX9_personEnd ∈ GW := mwq (tb3 _ (List.mem_of_getElem? (i := 205) (by decide +kernel))) (by decide +kernel)
theorem mw571 : Cond.code yX9_personEnd cX9_personEnd 4 (some .int) ∈ GW := mwq (tb3 _ (List.mem_of_getElem? (i := 206) (by decide +kernel))) (by decide +kernel)
theorem mw572 : Cond.methodLink RL 73 yX9_year ∈ GW := mwq (tb3 _ (List.mem_of_getElem? (i := 207) (by decide +kernel))) (by decide +kernel)
theorem mw573 : Cond.instanceMethod yX9_year ∈ GW := mwq (tb3 _ (List.mem_of_getElem? (i := 208) (by decide +kernel))) (by decide +kernel)
theorem mw574 : Cond.selects RX9 yX9_year yX9_year ∈ GW := mwq (tb3 _ (List.mem_of_getElem? (i := 209) (by decide +kernel))) (by decide +kernel)
theorem mw575 : Cond.code yX9_year cX9_year 3 (some .int) ∈ GW := mwq (tb3 _ (List.mem_of_getElem? (i := 210) (by decide +kernel))) (by decide +kernel)
theorem mw576 : Cond.methodLink RL 77 yX9_proof ∈ GW := mwq (tb3 _ (List.mem_of_getElem? (i := 211) (by decide +kernel))) (by decide +kernel)
theorem mw577 : Cond.instanceMethod yX9_proof ∈ GW := mwq (tb3 _ (List.mem_of_getElem? (i := 212) (by decide +kernel))) (by decide +kernel)
theorem mw578 : Cond.selects RX9 yX9_proof yX9_proof ∈ GW := mwq (tb3 _ (List.mem_of_getElem? (i := 213) (by decide +kernel))) (by decide +kernel)
theorem mw579 : Cond.code yX9_proof cX9_proof 6 (some .int) ∈ GW := mwq (tb3 _ (List.mem_of_getElem? (i := 214) (by decide +kernel))) (by decide +kernel)
theorem mw580 : Cond.methodLink RX9 194 yX9_isLinkPart ∈ GW := mwq (tb3 _ (List.mem_of_getElem? (i := 215) (by decide +kernel))) (by decide +kernel)
theorem mw581 : Cond.static yX9_isLinkPart ∈ GW := mwq (tb3 _ (List.mem_of_getElem? (i := 216) (by decide +kernel))) (by decide +kernel)
theorem mw582 : Cond.code yX9_isLinkPart cX9_isLinkPart 2 (some .boolean) ∈ GW := mwq (tb3 _ (List.mem_of_getElem? (i := 217) (by decide +kernel))) (by decide +kernel)
theorem mw583 : Cond.methodLink RX9 198 yX3_tellRest ∈ GW := mwq (tb3 _ (List.mem_of_getElem? (i := 218) (by decide +kernel))) (by decide +kernel)
theorem mw584 : Cond.instanceMethod yX3_tellRest ∈ GW := mwq (tb3 _ (List.mem_of_getElem? (i := 219) (by decide +kernel))) (by decide +kernel)
theorem mw585 : Cond.selects RX3 yX3_tellRest yX3_tellRest ∈ GW := mwq (tb3 _ (List.mem_of_getElem? (i := 220) (by decide +kernel))) (by decide +kernel)
theorem mw586 : Cond.code yX3_tellRest cX3_tellRest 5 (some .int) ∈ GW := mwq (tb3 _ (List.mem_of_getElem? (i := 221) (by decide +kernel))) (by decide +kernel)
theorem mw587 : Cond.methodLink RX3 106 yX3_follow ∈ GW := mwq (tb3 _ (List.mem_of_getElem? (i := 222) (by decide +kernel))) (by decide +kernel)
theorem mw588 : Cond.instanceMethod yX3_follow ∈ GW := mwq (tb3 _ (List.mem_of_getElem? (i := 224) (by decide +kernel))) (by decide +kernel)
theorem mw589 : Cond.code yX3_follow cX3_follow 5 (some .int) ∈ GW := mwq (tb3 _ (List.mem_of_getElem? (i := 225) (by decide +kernel))) (by decide +kernel)
theorem mw590 : Cond.methodLink RX3 110 yX3_tellRange ∈ GW := mwq (tb3 _ (List.mem_of_getElem? (i := 226) (by decide +kernel))) (by decide +kernel)
theorem mw591 : Cond.static yX3_tellRange ∈ GW := mwq (tb3 _ (List.mem_of_getElem? (i := 227) (by decide +kernel))) (by decide +kernel)
theorem mw592 : Cond.code yX3_tellRange cX3_tellRange 1 (some .int) ∈ GW := mwq (tb3 _ (List.mem_of_getElem? (i := 228) (by decide +kernel))) (by decide +kernel)
theorem mw593 : Cond.methodLink RL 82 yX9_prove ∈ GW := mwq (tb3 _ (List.mem_of_getElem? (i := 229) (by decide +kernel))) (by decide +kernel)
theorem mw594 : Cond.instanceMethod yX9_prove ∈ GW := mwq (tb3 _ (List.mem_of_getElem? (i := 230) (by decide +kernel))) (by decide +kernel)
theorem mw595 : Cond.selects RX9 yX9_prove yX9_prove ∈ GW := mwq (tb3 _ (List.mem_of_getElem? (i := 231) (by decide +kernel))) (by decide +kernel)
theorem mw596 : Cond.code yX9_prove cX9_prove 4 (some .int) ∈ GW := mwq (tb3 _ (List.mem_of_getElem? (i := 232) (by decide +kernel))) (by decide +kernel)
theorem mw597 : Cond.methodLink RX9 202 yX3_proveInto ∈ GW := mwq (tb3 _ (List.mem_of_getElem? (i := 233) (by decide +kernel))) (by decide +kernel)
theorem mw598 : Cond.instanceMethod yX3_proveInto ∈ GW := mwq (tb3 _ (List.mem_of_getElem? (i := 234) (by decide +kernel))) (by decide +kernel)
theorem mw599 : Cond.selects RX3 yX3_proveInto yX3_proveInto ∈ GW := mwq (tb3 _ (List.mem_of_getElem? (i := 235) (by decide +kernel))) (by decide +kernel)
theorem mw600 : Cond.code yX3_proveInto cX3_proveInto 5 none ∈ GW := mwq (tb3 _ (List.mem_of_getElem? (i := 236) (by decide +kernel))) (by decide +kernel)
theorem mw601 : Cond.methodLink RX3 113 yX5_put ∈ GW := mwq (tb3 _ (List.mem_of_getElem? (i := 237) (by decide +kernel))) (by decide +kernel)
theorem mw602 : Cond.methodLink RX3 118 yX5_putNumber ∈ GW := mwq (tb3 _ (List.mem_of_getElem? (i := 238) (by decide +kernel))) (by decide +kernel)
theorem mw603 : Cond.methodLink RL 86 yX9_clash ∈ GW := mwq (tb3 _ (List.mem_of_getElem? (i := 239) (by decide +kernel))) (by decide +kernel)
theorem mw604 : Cond.instanceMethod yX9_clash ∈ GW := mwq (tb4 _ (List.mem_of_getElem? (i := 0) (by decide +kernel))) (by decide +kernel)
theorem mw605 : Cond.selects RX9 yX9_clash yX9_clash ∈ GW := mwq (tb4 _ (List.mem_of_getElem? (i := 1) (by decide +kernel))) (by decide +kernel)
theorem mw606 : Cond.code yX9_clash cX9_clash 2 (some .int) ∈ GW := mwq (tb4 _ (List.mem_of_getElem? (i := 2) (by decide +kernel))) (by decide +kernel)
theorem mw607 : Cond.methodLink RX9 208 yX8_tellClashing ∈ GW := mwq (tb4 _ (List.mem_of_getElem? (i := 3) (by decide +kernel))) (by decide +kernel)
theorem mw608 : Cond.instanceMethod yX8_tellClashing ∈ GW := mwq (tb4 _ (List.mem_of_getElem? (i := 4) (by decide +kernel))) (by decide +kernel)
theorem mw609 : Cond.selects RX8 yX8_tellClashing yX8_tellClashing ∈ GW := mwq (tb4 _ (List.mem_of_getElem? (i := 5) (by decide +kernel))) (by decide +kernel)
theorem mw610 : Cond.code yX8_tellClashing cX8_tellClashing 1 (some .int) ∈ GW := mwq (tb4 _ (List.mem_of_getElem? (i := 6) (by decide +kernel))) (by decide +kernel)
theorem mw611 : Cond.methodLink RX8 94 yX3_tellRange ∈ GW := mwq (tb4 _ (List.mem_of_getElem? (i := 7) (by decide +kernel))) (by decide +kernel)
theorem mw612 : Cond.methodLink RL 90 yX9_why ∈ GW := mwq (tb4 _ (List.mem_of_getElem? (i := 8) (by decide +kernel))) (by decide +kernel)
theorem mw613 : Cond.instanceMethod yX9_why ∈ GW := mwq (tb4 _ (List.mem_of_getElem? (i := 9) (by decide +kernel))) (by decide +kernel)
theorem mw614 : Cond.selects RX9 yX9_why yX9_why ∈ GW := mwq (tb4 _ (List.mem_of_getElem? (i := 10) (by decide +kernel))) (by decide +kernel)
theorem mw615 : Cond.code yX9_why cX9_why 4 (some .int) ∈ GW := mwq (tb4 _ (List.mem_of_getElem? (i := 11) (by decide +kernel))) (by decide +kernel)
theorem mw616 : Cond.methodLink RL 94 yX9_culprit ∈ GW := mwq (tb4 _ (List.mem_of_getElem? (i := 12) (by decide +kernel))) (by decide +kernel)
theorem mw617 : Cond.instanceMethod yX9_culprit ∈ GW := mwq (tb4 _ (List.mem_of_getElem? (i := 13) (by decide +kernel))) (by decide +kernel)
theorem mw618 : Cond.selects RX9 yX9_culprit yX9_culprit ∈ GW := mwq (tb4 _ (List.mem_of_getElem? (i := 14) (by decide +kernel))) (by decide +kernel)
theorem mw619 : Cond.code yX9_culprit cX9_culprit 2 (some .int) ∈ GW := mwq (tb4 _ (List.mem_of_getElem? (i := 15) (by decide +kernel))) (by decide +kernel)
theorem mw620 : Cond.methodLink RX9 214 yX9_settleCulprits ∈ GW := mwq (tb4 _ (List.mem_of_getElem? (i := 16) (by decide +kernel))) (by decide +kernel)
theorem mw621 : Cond.instanceMethod yX9_settleCulprits ∈ GW := mwq (tb4 _ (List.mem_of_getElem? (i := 18) (by decide +kernel))) (by decide +kernel)
theorem mw622 : Cond.code yX9_settleCulprits cX9_settleCulprits 2 none ∈ GW := mwq (tb4 _ (List.mem_of_getElem? (i := 19) (by decide +kernel))) (by decide +kernel)
theorem mw623 : Cond.methodLink RL 98 yX9_same ∈ GW := mwq (tb4 _ (List.mem_of_getElem? (i := 20) (by decide +kernel))) (by decide +kernel)
theorem mw624 : Cond.instanceMethod yX9_same ∈ GW := mwq (tb4 _ (List.mem_of_getElem? (i := 21) (by decide +kernel))) (by decide +kernel)
theorem mw625 : Cond.selects RX9 yX9_same yX9_same ∈ GW := mwq (tb4 _ (List.mem_of_getElem? (i := 22) (by decide +kernel))) (by decide +kernel)
theorem mw626 : Cond.code yX9_same cX9_same 3 (some .int) ∈ GW := mwq (tb4 _ (List.mem_of_getElem? (i := 23) (by decide +kernel))) (by decide +kernel)
theorem mw627 : Cond.methodLink RX9 220 yX9_arePersons ∈ GW := mwq (tb4 _ (List.mem_of_getElem? (i := 24) (by decide +kernel))) (by decide +kernel)
theorem mw628 : Cond.instanceMethod yX9_arePersons ∈ GW := mwq (tb4 _ (List.mem_of_getElem? (i := 26) (by decide +kernel))) (by decide +kernel)
theorem mw629 : Cond.code yX9_arePersons cX9_arePersons 3 (some .boolean) ∈ GW := mwq (tb4 _ (List.mem_of_getElem? (i := 27) (by decide +kernel))) (by decide +kernel)
theorem mw630 : Cond.methodLink RX9 223 yX4_makeSame ∈ GW := mwq (tb4 _ (List.mem_of_getElem? (i := 28) (by decide +kernel))) (by decide +kernel)
theorem mw631 : Cond.instanceMethod yX4_makeSame ∈ GW := mwq (tb4 _ (List.mem_of_getElem? (i := 29) (by decide +kernel))) (by decide +kernel)
theorem mw632 : Cond.selects RX4 yX4_makeSame yX4_makeSame ∈ GW := mwq (tb4 _ (List.mem_of_getElem? (i := 30) (by decide +kernel))) (by decide +kernel)
theorem mw633 : Cond.code yX4_makeSame cX4_makeSame 3 none ∈ GW := mwq (tb4 _ (List.mem_of_getElem? (i := 31) (by decide +kernel))) (by decide +kernel)
theorem mw634 : Cond.methodLink RX9 227 yX9_workOneMore ∈ GW := mwq (tb4 _ (List.mem_of_getElem? (i := 32) (by decide +kernel))) (by decide +kernel)
theorem mw635 : Cond.instanceMethod yX9_workOneMore ∈ GW := mwq (tb4 _ (List.mem_of_getElem? (i := 34) (by decide +kernel))) (by decide +kernel)
theorem mw636 : Cond.code yX9_workOneMore cX9_workOneMore 1 none ∈ GW := mwq (tb4 _ (List.mem_of_getElem? (i := 35) (by decide +kernel))) (by decide +kernel)
theorem mw637 : Cond.methodLink RL 102 yX9_narrows ∈ GW := mwq (tb4 _ (List.mem_of_getElem? (i := 36) (by decide +kernel))) (by decide +kernel)
theorem mw638 : Cond.instanceMethod yX9_narrows ∈ GW := mwq (tb4 _ (List.mem_of_getElem? (i := 37) (by decide +kernel))) (by decide +kernel)
theorem mw639 : Cond.selects RX9 yX9_narrows yX9_narrows ∈ GW := mwq (tb4 _ (List.mem_of_getElem? (i := 38) (by decide +kernel))) (by decide +kernel)
theorem mw640 : Cond.code yX9_narrows cX9_narrows 4 (some .int) ∈ GW := mwq (tb4 _ (List.mem_of_getElem? (i := 39) (by decide +kernel))) (by decide +kernel)
theorem mw641 : Cond.methodLink RX9 230 yX9_yearsBetween ∈ GW := mwq (tb4 _ (List.mem_of_getElem? (i := 40) (by decide +kernel))) (by decide +kernel)
theorem mw642 : Cond.static yX9_yearsBetween ∈ GW := mwq (tb4 _ (List.mem_of_getElem? (i := 41) (by decide +kernel))) (by decide +kernel)
theorem mw643 : Cond.code yX9_yearsBetween cX9_yearsBetween 4 (some .int) ∈ GW := mwq (tb4 _ (List.mem_of_getElem? (i := 42) (by decide +kernel))) (by decide +kernel)
theorem mw644 : Cond.methodLink RL 106 yX9_rounds ∈ GW := mwq (tb4 _ (List.mem_of_getElem? (i := 43) (by decide +kernel))) (by decide +kernel)
theorem mw645 : Cond.instanceMethod yX9_rounds ∈ GW := mwq (tb4 _ (List.mem_of_getElem? (i := 44) (by decide +kernel))) (by decide +kernel)
theorem mw646 : Cond.selects RX9 yX9_rounds yX9_rounds ∈ GW := mwq (tb4 _ (List.mem_of_getElem? (i := 45) (by decide +kernel))) (by decide +kernel)
theorem mw647 : Cond.code yX9_rounds cX9_rounds 1 (some .int) ∈ GW := mwq (tb4 _ (List.mem_of_getElem? (i := 46) (by decide +kernel))) (by decide +kernel)
theorem mw648 : Cond.methodLink RL 110 yX9_kin ∈ GW := mwq (tb4 _ (List.mem_of_getElem? (i := 47) (by decide +kernel))) (by decide +kernel)
theorem mw649 : Cond.instanceMethod yX9_kin ∈ GW := mwq (tb4 _ (List.mem_of_getElem? (i := 48) (by decide +kernel))) (by decide +kernel)
theorem mw650 : Cond.selects RX9 yX9_kin yX9_kin ∈ GW := mwq (tb4 _ (List.mem_of_getElem? (i := 49) (by decide +kernel))) (by decide +kernel)
theorem mw651 : Cond.code yX9_kin cX9_kin 3 (some .int) ∈ GW := mwq (tb4 _ (List.mem_of_getElem? (i := 50) (by decide +kernel))) (by decide +kernel)
theorem mw652 : Cond.methodLink RX9 237 yX9_seekWays ∈ GW := mwq (tb4 _ (List.mem_of_getElem? (i := 51) (by decide +kernel))) (by decide +kernel)
theorem mw653 : Cond.instanceMethod yX9_seekWays ∈ GW := mwq (tb4 _ (List.mem_of_getElem? (i := 53) (by decide +kernel))) (by decide +kernel)
theorem mw654 : Cond.code yX9_seekWays cX9_seekWays 3 none ∈ GW := mwq (tb4 _ (List.mem_of_getElem? (i := 54) (by decide +kernel))) (by decide +kernel)
theorem mw655 : Cond.methodLink RX9 356 yX7_seek ∈ GW := mwq (tb4 _ (List.mem_of_getElem? (i := 55) (by decide +kernel))) (by decide +kernel)
theorem mw656 : Cond.instanceMethod yX7_seek ∈ GW := mwq (tb4 _ (List.mem_of_getElem? (i := 56) (by decide +kernel))) (by decide +kernel)
theorem mw657 : Cond.selects RX7 yX7_seek yX7_seek ∈ GW := mwq (tb4 _ (List.mem_of_getElem? (i := 57) (by decide +kernel))) (by decide +kernel)
theorem mw658 : Cond.code yX7_seek cX7_seek 5 none ∈ GW := mwq (tb4 _ (List.mem_of_getElem? (i := 58) (by decide +kernel))) (by decide +kernel)
theorem mw659 : Cond.methodLink RX7 18 yX7_count ∈ GW := mwq (tb4 _ (List.mem_of_getElem? (i := 59) (by decide +kernel))) (by decide +kernel)
theorem mw660 : Cond.static yX7_count ∈ GW := mwq (tb4 _ (List.mem_of_getElem? (i := 60) (by decide +kernel))) (by decide +kernel)
theorem mw661 : Cond.code yX7_count cX7_count 7 none ∈ GW := mwq (tb4 _ (List.mem_of_getElem? (i := 61) (by decide +kernel))) (by decide +kernel)
theorem mw662 : Cond.methodLink RX7 36 yX1_has ∈ GW := mwq (tb4 _ (List.mem_of_getElem? (i := 62) (by decide +kernel))) (by decide +kernel)
theorem mw663 : Cond.methodLink RX7 26 yX7_isNearer ∈ GW := mwq (tb4 _ (List.mem_of_getElem? (i := 63) (by decide +kernel))) (by decide +kernel)
theorem mw664 : Cond.instanceMethod yX7_isNearer ∈ GW := mwq (tb4 _ (List.mem_of_getElem? (i := 65) (by decide +kernel))) (by decide +kernel)
theorem mw665 : Cond.code yX7_isNearer cX7_isNearer 3 (some .boolean) ∈ GW := mwq (tb4 _ (List.mem_of_getElem? (i := 66) (by decide +kernel))) (by decide +kernel)
theorem mw666 : Cond.methodLink RL 114 yX9_common ∈ GW := mwq (tb4 _ (List.mem_of_getElem? (i := 67) (by decide +kernel))) (by decide +kernel)
theorem mw667 : Cond.instanceMethod yX9_common ∈ GW := mwq (tb4 _ (List.mem_of_getElem? (i := 68) (by decide +kernel))) (by decide +kernel)
theorem mw668 : Cond.selects RX9 yX9_common yX9_common ∈ GW := mwq (tb4 _ (List.mem_of_getElem? (i := 69) (by decide +kernel))) (by decide +kernel)
theorem mw669 : Cond.code yX9_common cX9_common 3 (some .int) ∈ GW := mwq (tb4 _ (List.mem_of_getElem? (i := 70) (by decide +kernel))) (by decide +kernel)
theorem mw670 : Cond.methodLink RL 118 yX9_half ∈ GW := mwq (tb4 _ (List.mem_of_getElem? (i := 71) (by decide +kernel))) (by decide +kernel)
theorem mw671 : Cond.instanceMethod yX9_half ∈ GW := mwq (tb4 _ (List.mem_of_getElem? (i := 72) (by decide +kernel))) (by decide +kernel)
theorem mw672 : Cond.selects RX9 yX9_half yX9_half ∈ GW := mwq (tb4 _ (List.mem_of_getElem? (i := 73) (by decide +kernel))) (by decide +kernel)
theorem mw673 : Cond.code yX9_half cX9_half 3 (some .int) ∈ GW := mwq (tb4 _ (List.mem_of_getElem? (i := 74) (by decide +kernel))) (by decide +kernel)
theorem mw674 : Cond.methodLink RX9 249 yX7_isHalf ∈ GW := mwq (tb4 _ (List.mem_of_getElem? (i := 75) (by decide +kernel))) (by decide +kernel)
theorem mw675 : Cond.instanceMethod yX7_isHalf ∈ GW := mwq (tb4 _ (List.mem_of_getElem? (i := 76) (by decide +kernel))) (by decide +kernel)
theorem mw676 : Cond.selects RX7 yX7_isHalf yX7_isHalf ∈ GW := mwq (tb4 _ (List.mem_of_getElem? (i := 77) (by decide +kernel))) (by decide +kernel)
theorem mw677 : Cond.code yX7_isHalf cX7_isHalf 2 (some .boolean) ∈ GW := mwq (tb4 _ (List.mem_of_getElem? (i := 78) (by decide +kernel))) (by decide +kernel)
theorem mw678 : Cond.methodLink RX7 49 yX7_descend ∈ GW := mwq (tb4 _ (List.mem_of_getElem? (i := 79) (by decide +kernel))) (by decide +kernel)
theorem mw679 : Cond.instanceMethod yX7_descend ∈ GW := mwq (tb4 _ (List.mem_of_getElem? (i := 81) (by decide +kernel))) (by decide +kernel)
theorem mw680 : Cond.code yX7_descend cX7_descend 6 (some .int) ∈ GW := mwq (tb4 _ (List.mem_of_getElem? (i := 82) (by decide +kernel))) (by decide +kernel)
theorem mw681 : Cond.methodLink RX7 45 yX7_stepDown ∈ GW := mwq (tb4 _ (List.mem_of_getElem? (i := 83) (by decide +kernel))) (by decide +kernel)
theorem mw682 : Cond.static yX7_stepDown ∈ GW := mwq (tb4 _ (List.mem_of_getElem? (i := 84) (by decide +kernel))) (by decide +kernel)
theorem mw683 : Cond.code yX7_stepDown cX7_stepDown 4 (some .int) ∈ GW := mwq (tb4 _ (List.mem_of_getElem? (i := 85) (by decide +kernel))) (by decide +kernel)
theorem mw684 : Cond.methodLink RX7 52 yX1_haveAlikeParents ∈ GW := mwq (tb4 _ (List.mem_of_getElem? (i := 86) (by decide +kernel))) (by decide +kernel)
theorem mw685 : Cond.instanceMethod yX1_haveAlikeParents ∈ GW := mwq (tb4 _ (List.mem_of_getElem? (i := 87) (by decide +kernel))) (by decide +kernel)
theorem mw686 : Cond.selects RX1 yX1_haveAlikeParents yX1_haveAlikeParents ∈ GW := mwq (tb4 _ (List.mem_of_getElem? (i := 88) (by decide +kernel))) (by decide +kernel)
theorem mw687 : Cond.code yX1_haveAlikeParents cX1_haveAlikeParents 3 (some .boolean) ∈ GW := mwq (tb4 _ (List.mem_of_getElem? (i := 89) (by decide +kernel))) (by decide +kernel)
theorem mw688 : Cond.methodLink RL 122 yX9_title ∈ GW := mwq (tb4 _ (List.mem_of_getElem? (i := 90) (by decide +kernel))) (by decide +kernel)
theorem mw689 : Cond.instanceMethod yX9_title ∈ GW := mwq (tb4 _ (List.mem_of_getElem? (i := 91) (by decide +kernel))) (by decide +kernel)
theorem mw690 : Cond.selects RX9 yX9_title yX9_title ∈ GW := mwq (tb4 _ (List.mem_of_getElem? (i := 92) (by decide +kernel))) (by decide +kernel)
theorem mw691 : Cond.code yX9_title cX9_title 4 (some .int) ∈ GW := mwq (tb4 _ (List.mem_of_getElem? (i := 93) (by decide +kernel))) (by decide +kernel)
theorem mw692 : Cond.methodLink RX9 254 yX6_putKin ∈ GW := mwq (tb4 _ (List.mem_of_getElem? (i := 94) (by decide +kernel))) (by decide +kernel)
theorem mw693 : Cond.static yX6_putKin ∈ GW := mwq (tb4 _ (List.mem_of_getElem? (i := 95) (by decide +kernel))) (by decide +kernel)
theorem mw694 : Cond.code yX6_putKin cX6_putKin 6 none ∈ GW := mwq (tb4 _ (List.mem_of_getElem? (i := 96) (by decide +kernel))) (by decide +kernel)
theorem mw695 : Cond.methodLink RX6 20 yX5_putAll ∈ GW := mwq (tb4 _ (List.mem_of_getElem? (i := 98) (by decide +kernel))) (by decide +kernel)
theorem mw696 : Cond.instanceMethod yX5_putAll ∈ GW := mwq (tb4 _ (List.mem_of_getElem? (i := 99) (by decide +kernel))) (by decide +kernel)
theorem mw697 : Cond.selects RX5 yX5_putAll yX5_putAll ∈ GW := mwq (tb4 _ (List.mem_of_getElem? (i := 100) (by decide +kernel))) (by decide +kernel)
theorem mw698 : Cond.code yX5_putAll cX5_putAll 3 none ∈ GW := mwq (tb4 _ (List.mem_of_getElem? (i := 101) (by decide +kernel))) (by decide +kernel)
theorem mw699 : Cond.methodLink RX5 19 yJ0_length_8abf5 ∈ GW := mwq (tb4 _ (List.mem_of_getElem? (i := 102) (by decide +kernel))) (by decide +kernel)
theorem mw700 : Cond.instanceMethod yJ0_length_8abf5 ∈ GW := mwq (tb4 _ (List.mem_of_getElem? (i := 103) (by decide +kernel))) (by decide +kernel)
theorem mw701 : Cond.selects RJ0 yJ0_length_8abf5 yJ0_length_8abf5 ∈ GW := mwq (tb4 _ (List.mem_of_getElem? (i := 104) (by decide +kernel))) (by decide +kernel)
theorem mw702 : Cond.code yJ0_length_8abf5 cJ0_length_8abf5 1 (some .int) ∈ GW := mwq (tb4 _ (List.mem_of_getElem? (i := 105) (by decide +kernel))) (by decide +kernel)
theorem mw703 : Cond.methodLink RJ0 335 yJ0_coder_7d493 ∈ GW := mwq (tb4 _ (List.mem_of_getElem? (i := 106) (by decide +kernel))) (by decide +kernel)
theorem mw704 : Cond.instanceMethod yJ0_coder_7d493 ∈ GW := mwq (tb4 _ (List.mem_of_getElem? (i := 107) (by decide +kernel))) (by decide +kernel)
theorem mw705 : Cond.selects RJ0 yJ0_coder_7d493 yJ0_coder_7d493 ∈ GW := mwq (tb4 _ (List.mem_of_getElem? (i := 108) (by decide +kernel))) (by decide +kernel)
theorem mw706 : Cond.code yJ0_coder_7d493 cJ0_coder_7d493 1 (some .byte) ∈ GW := mwq (tb4 _ (List.mem_of_getElem? (i := 109) (by decide +kernel))) (by decide +kernel)
theorem mw707 : Cond.fieldLink RJ0 38 "java/lang/String" "COMPACT_STRINGS" "Z" ∈ GW := mwq (tb4 _ (List.mem_of_getElem? (i := 110) (by decide +kernel))) (by decide +kernel)
theorem mw708 : Cond.methodLink RX5 24 yJ0_charAt_5068e ∈ GW := mwq (tb4 _ (List.mem_of_getElem? (i := 112) (by decide +kernel))) (by decide +kernel)
theorem mw709 : Cond.instanceMethod yJ0_charAt_5068e ∈ GW := mwq (tb4 _ (List.mem_of_getElem? (i := 113) (by decide +kernel))) (by decide +kernel)
theorem mw710 : Cond.selects RJ0 yJ0_charAt_5068e yJ0_charAt_5068e ∈ GW := mwq (tb4 _ (List.mem_of_getElem? (i := 114) (by decide +kernel))) (by decide +kernel)
theorem mw711 : Cond.code yJ0_charAt_5068e cJ0_charAt_5068e 2 (some .char) ∈ GW := mwq (tb4 _ (List.mem_of_getElem? (i := 115) (by decide +kernel))) (by decide +kernel)
theorem mw712 : Cond.methodLink RJ0 492 yJ0_isLatin1_aae02 ∈ GW := mwq (tb4 _ (List.mem_of_getElem? (i := 116) (by decide +kernel))) (by decide +kernel)
theorem mw713 : Cond.instanceMethod yJ0_isLatin1_aae02 ∈ GW := mwq (tb4 _ (List.mem_of_getElem? (i := 117) (by decide +kernel))) (by decide +kernel)
theorem mw714 : Cond.selects RJ0 yJ0_isLatin1_aae02 yJ0_isLatin1_aae02 ∈ GW := mwq (tb4 _ (List.mem_of_getElem? (i := 118) (by decide +kernel))) (by decide +kernel)
theorem mw715 : Cond.code yJ0_isLatin1_aae02 cJ0_isLatin1_aae02 1 (some .boolean) ∈ GW := mwq (tb4 _ (List.mem_of_getElem? (i := 119) (by decide +kernel))) (by decide +kernel)
theorem mw716 : Cond.methodLink RJ0 495 yJ1_charAt_3b067 ∈ GW := mwq (tb4 _ (List.mem_of_getElem? (i := 120) (by decide +kernel))) (by decide +kernel)
theorem mw717 : Cond.static yJ1_charAt_3b067 ∈ GW := mwq (tb4 _ (List.mem_of_getElem? (i := 121) (by decide +kernel))) (by decide +kernel)
theorem mw718 : Cond.code yJ1_charAt_3b067 cJ1_charAt_3b067 2 (some .char) ∈ GW := mwq (tb4 _ (List.mem_of_getElem? (i := 122) (by decide +kernel))) (by decide +kernel)
theorem mw719 : Cond.methodLink RJ1 9 yJ0_checkIndex_df160 ∈ GW := mwq (tb4 _ (List.mem_of_getElem? (i := 123) (by decide +kernel))) (by decide +kernel)
theorem mw720 : Cond.static yJ0_checkIndex_df160 ∈ GW := mwq (tb4 _ (List.mem_of_getElem? (i := 124) (by decide +kernel))) (by decide +kernel)
theorem mw721 : Cond.code yJ0_checkIndex_df160 cJ0_checkIndex_df160 2 none ∈ GW := mwq (tb4 _ (List.mem_of_getElem? (i := 125) (by decide +kernel))) (by decide +kernel)
theorem mw722 : Cond.fieldLink RJ0 1053 "jdk/internal/util/Preconditions" "SIOOBE_FORMATTER" "Ljava/util/function/BiFunction;" ∈ GW := mwq (tb4 _ (List.mem_of_getElem? (i := 126) (by decide +kernel))) (by decide +kernel)
theorem mw723 : Cond.methodLink RJ0 1059 yJ3_checkIndex_8e157 ∈ GW := mwq (tb4 _ (List.mem_of_getElem? (i := 128) (by decide +kernel))) (by decide +kernel)
theorem mw724 : Cond.static yJ3_checkIndex_8e157 ∈ GW := mwq (tb4 _ (List.mem_of_getElem? (i := 129) (by decide +kernel))) (by decide +kernel)
theorem mw725 : Cond.code yJ3_checkIndex_8e157 cJ3_checkIndex_8e157 3 (some .int) ∈ GW := mwq (tb4 _ (List.mem_of_getElem? (i := 130) (by decide +kernel))) (by decide +kernel)
theorem mw726 : Cond.methodLink RJ0 498 yJ2_charAt_3b067 ∈ GW := mwq (tb4 _ (List.mem_of_getElem? (i := 131) (by decide +kernel))) (by decide +kernel)
theorem mw727 : Cond.static yJ2_charAt_3b067 ∈ GW := mwq (tb4 _ (List.mem_of_getElem? (i := 132) (by decide +kernel))) (by decide +kernel)
theorem mw728 : Cond.code yJ2_charAt_3b067 cJ2_charAt_3b067 2 (some .char) ∈ GW := mwq (tb4 _ (List.mem_of_getElem? (i := 133) (by decide +kernel))) (by decide +kernel)
theorem mw729 : Cond.methodLink RJ2 67 yJ2_checkIndex_2214a ∈ GW := mwq (tb4 _ (List.mem_of_getElem? (i := 134) (by decide +kernel))) (by decide +kernel)
theorem mw730 : Cond.static yJ2_checkIndex_2214a ∈ GW := mwq (tb4 _ (List.mem_of_getElem? (i := 135) (by decide +kernel))) (by decide +kernel)
theorem mw731 : Cond.code yJ2_checkIndex_2214a cJ2_checkIndex_2214a 2 none ∈ GW := mwq (tb4 _ (List.mem_of_getElem? (i := 136) (by decide +kernel))) (by decide +kernel)
theorem mw732 : Cond.methodLink RJ2 48 yJ2_length_9d52b ∈ GW := mwq (tb4 _ (List.mem_of_getElem? (i := 137) (by decide +kernel))) (by decide +kernel)
theorem mw733 : Cond.static yJ2_length_9d52b ∈ GW := mwq (tb4 _ (List.mem_of_getElem? (i := 138) (by decide +kernel))) (by decide +kernel)
theorem mw734 : Cond.code yJ2_length_9d52b cJ2_length_9d52b 1 (some .int) ∈ GW := mwq (tb4 _ (List.mem_of_getElem? (i := 139) (by decide +kernel))) (by decide +kernel)
theorem mw735 : Cond.methodLink RJ2 414 yJ0_checkIndex_df160 ∈ GW := mwq (tb4 _ (List.mem_of_getElem? (i := 140) (by decide +kernel))) (by decide +kernel)
theorem mw736 : Cond.methodLink RJ2 71 yJ2_getChar_3b067 ∈ GW := mwq (tb4 _ (List.mem_of_getElem? (i := 141) (by decide +kernel))) (by decide +kernel)
theorem mw737 : Cond.static yJ2_getChar_3b067 ∈ GW := mwq (tb4 _ (List.mem_of_getElem? (i := 142) (by decide +kernel))) (by decide +kernel)
theorem mw738 : Cond.code yJ2_getChar_3b067 cJ2_getChar_3b067 2 (some .char) ∈ GW := mwq (tb4 _ (List.mem_of_getElem? (i := 143) (by decide +kernel))) (by decide +kernel)
theorem mw739 : Cond.fieldLink RJ2 44 "java/lang/StringUTF16" "$assertionsDisabled" "Z" ∈ GW := mwq (tb4 _ (List.mem_of_getElem? (i := 144) (by decide +kernel))) (by decide +kernel)
theorem mw740 : Cond.fieldLink RJ2 59 "java/lang/StringUTF16" "HI_BYTE_SHIFT" "I" ∈ GW := mwq (tb4 _ (List.mem_of_getElem? (i := 146) (by decide +kernel))) (by decide +kernel)
theorem mw741 : Cond.fieldLink RJ2 63 "java/lang/StringUTF16" "LO_BYTE_SHIFT" "I" ∈ GW := mwq (tb4 _ (List.mem_of_getElem? (i := 148) (by decide +kernel))) (by decide +kernel)
theorem mw742 : Cond.methodLink RX6 28 yX6_putGrand ∈ GW := mwq (tb4 _ (List.mem_of_getElem? (i := 151) (by decide +kernel))) (by decide +kernel)
theorem mw743 : Cond.static yX6_putGrand ∈ GW := mwq (tb4 _ (List.mem_of_getElem? (i := 152) (by decide +kernel))) (by decide +kernel)
theorem mw744 : Cond.code yX6_putGrand cX6_putGrand 3 none ∈ GW := mwq (tb4 _ (List.mem_of_getElem? (i := 153) (by decide +kernel))) (by decide +kernel)
theorem mw745 : Cond.methodLink RX6 40 yX6_putBySex ∈ GW := mwq (tb4 _ (List.mem_of_getElem? (i := 158) (by decide +kernel))) (by decide +kernel)
theorem mw746 : Cond.static yX6_putBySex ∈ GW := mwq (tb4 _ (List.mem_of_getElem? (i := 159) (by decide +kernel))) (by decide +kernel)
theorem mw747 : Cond.code yX6_putBySex cX6_putBySex 5 none ∈ GW := mwq (tb4 _ (List.mem_of_getElem? (i := 160) (by decide +kernel))) (by decide +kernel)
theorem mw748 : Cond.methodLink RX6 68 yX6_putCousin ∈ GW := mwq (tb4 _ (List.mem_of_getElem? (i := 173) (by decide +kernel))) (by decide +kernel)
theorem mw749 : Cond.static yX6_putCousin ∈ GW := mwq (tb4 _ (List.mem_of_getElem? (i := 174) (by decide +kernel))) (by decide +kernel)
theorem mw750 : Cond.code yX6_putCousin cX6_putCousin 3 none ∈ GW := mwq (tb4 _ (List.mem_of_getElem? (i := 175) (by decide +kernel))) (by decide +kernel)
theorem mw751 : Cond.methodLink RX6 76 Lib.Math.min.name ∈ GW := mwq (tb4 _ (List.mem_of_getElem? (i := 177) (by decide +kernel))) (by decide +kernel)
theorem mw752 : Cond.methodLink RX6 82 yX5_putNumber ∈ GW := mwq (tb4 _ (List.mem_of_getElem? (i := 178) (by decide +kernel))) (by decide +kernel)
theorem mw753 : Cond.methodLink RX6 86 yX5_put ∈ GW := mwq (tb4 _ (List.mem_of_getElem? (i := 179) (by decide +kernel))) (by decide +kernel)
theorem mw754 : Cond.methodLink RX6 89 Lib.Math.abs.name ∈ GW := mwq (tb4 _ (List.mem_of_getElem? (i := 180) (by decide +kernel))) (by decide +kernel)
theorem mw755 : Cond.static Lib.Math.abs.name ∈ GW := mwq (tb4 _ (List.mem_of_getElem? (i := 181) (by decide +kernel))) (by decide +kernel)
theorem mw756 : Cond.code Lib.Math.abs.name cJ9_abs_0f7a4 1 (some .int) ∈ GW := mwq (tb4 _ (List.mem_of_getElem? (i := 182) (by decide +kernel))) (by decide +kernel)
theorem mw757 : Cond.methodLink RX9 260 yX1_areMarried ∈ GW := mwq (tb4 _ (List.mem_of_getElem? (i := 183) (by decide +kernel))) (by decide +kernel)
theorem mw758 : Cond.instanceMethod yX1_areMarried ∈ GW := mwq (tb4 _ (List.mem_of_getElem? (i := 184) (by decide +kernel))) (by decide +kernel)
theorem mw759 : Cond.selects RX1 yX1_areMarried yX1_areMarried ∈ GW := mwq (tb4 _ (List.mem_of_getElem? (i := 185) (by decide +kernel))) (by decide +kernel)
theorem mw760 : Cond.code yX1_areMarried cX1_areMarried 3 (some .boolean) ∈ GW := mwq (tb4 _ (List.mem_of_getElem? (i := 186) (by decide +kernel))) (by decide +kernel)
theorem mw761 : Cond.methodLink RX9 269 yX6_putBySex ∈ GW := mwq (tb4 _ (List.mem_of_getElem? (i := 190) (by decide +kernel))) (by decide +kernel)
theorem mw762 : Cond.methodLink RX9 275 yX5_putAll ∈ GW := mwq (tb4 _ (List.mem_of_getElem? (i := 192) (by decide +kernel))) (by decide +kernel)
theorem mw763 : Cond.methodLink RL 126 yX9_path ∈ GW := mwq (tb4 _ (List.mem_of_getElem? (i := 193) (by decide +kernel))) (by decide +kernel)
theorem mw764 : Cond.instanceMethod yX9_path ∈ GW := mwq (tb4 _ (List.mem_of_getElem? (i := 194) (by decide +kernel))) (by decide +kernel)
theorem mw765 : Cond.selects RX9 yX9_path yX9_path ∈ GW := mwq (tb4 _ (List.mem_of_getElem? (i := 195) (by decide +kernel))) (by decide +kernel)
theorem mw766 : Cond.code yX9_path cX9_path 5 (some .int) ∈ GW := mwq (tb4 _ (List.mem_of_getElem? (i := 196) (by decide +kernel))) (by decide +kernel)
theorem mw767 : Cond.methodLink RX9 279 yX7_stop ∈ GW := mwq (tb4 _ (List.mem_of_getElem? (i := 197) (by decide +kernel))) (by decide +kernel)
theorem mw768 : Cond.instanceMethod yX7_stop ∈ GW := mwq (tb4 _ (List.mem_of_getElem? (i := 198) (by decide +kernel))) (by decide +kernel)
theorem mw769 : Cond.selects RX7 yX7_stop yX7_stop ∈ GW := mwq (tb4 _ (List.mem_of_getElem? (i := 199) (by decide +kernel))) (by decide +kernel)
theorem mw770 : Cond.code yX7_stop cX7_stop 3 (some .int) ∈ GW := mwq (tb4 _ (List.mem_of_getElem? (i := 200) (by decide +kernel))) (by decide +kernel)
theorem mw771 : Cond.methodLink RL 130 yX9_relatives ∈ GW := mwq (tb4 _ (List.mem_of_getElem? (i := 201) (by decide +kernel))) (by decide +kernel)
theorem mw772 : Cond.instanceMethod yX9_relatives ∈ GW := mwq (tb4 _ (List.mem_of_getElem? (i := 202) (by decide +kernel))) (by decide +kernel)
theorem mw773 : Cond.selects RX9 yX9_relatives yX9_relatives ∈ GW := mwq (tb4 _ (List.mem_of_getElem? (i := 203) (by decide +kernel))) (by decide +kernel)
theorem mw774 : Cond.code yX9_relatives cX9_relatives 4 (some .long) ∈ GW := mwq (tb4 _ (List.mem_of_getElem? (i := 204) (by decide +kernel))) (by decide +kernel)
theorem mw775 : Cond.constantLong RX9 283 (Int64.ofInt (-9223372036854775808)) ∈ GW := mwq (tb4 _ (List.mem_of_getElem? (i := 205) (by decide +kernel))) (by decide +kernel)
theorem mw776 : Cond.methodLink RX9 285 yX1_children ∈ GW := mwq (tb4 _ (List.mem_of_getElem? (i := 206) (by decide +kernel))) (by decide +kernel)
theorem mw777 : Cond.methodLink RX9 288 yX1_siblings ∈ GW := mwq (tb4 _ (List.mem_of_getElem? (i := 207) (by decide +kernel))) (by decide +kernel)
theorem mw778 : Cond.instanceMethod yX1_siblings ∈ GW := mwq (tb4 _ (List.mem_of_getElem? (i := 208) (by decide +kernel))) (by decide +kernel)
theorem mw779 : Cond.selects RX1 yX1_siblings yX1_siblings ∈ GW := mwq (tb4 _ (List.mem_of_getElem? (i := 209) (by decide +kernel))) (by decide +kernel)
theorem mw780 : Cond.code yX1_siblings cX1_siblings 4 (some .int) ∈ GW := mwq (tb4 _ (List.mem_of_getElem? (i := 210) (by decide +kernel))) (by decide +kernel)
theorem mw781 : Cond.methodLink RL 135 yX9_ancestors ∈ GW := mwq (tb4 _ (List.mem_of_getElem? (i := 211) (by decide +kernel))) (by decide +kernel)
theorem mw782 : Cond.instanceMethod yX9_ancestors ∈ GW := mwq (tb4 _ (List.mem_of_getElem? (i := 212) (by decide +kernel))) (by decide +kernel)
theorem mw783 : Cond.selects RX9 yX9_ancestors yX9_ancestors ∈ GW := mwq (tb4 _ (List.mem_of_getElem? (i := 213) (by decide +kernel))) (by decide +kernel)
theorem mw784 : Cond.code yX9_ancestors cX9_ancestors 2 (some .long) ∈ GW := mwq (tb4 _ (List.mem_of_getElem? (i := 214) (by decide +kernel))) (by decide +kernel)
theorem mw785 : Cond.methodLink RL 140 yX9_descendants ∈ GW := mwq (tb4 _ (List.mem_of_getElem? (i := 215) (by decide +kernel))) (by decide +kernel)
theorem mw786 : Cond.instanceMethod yX9_descendants ∈ GW := mwq (tb4 _ (List.mem_of_getElem? (i := 216) (by decide +kernel))) (by decide +kernel)
theorem mw787 : Cond.selects RX9 yX9_descendants yX9_descendants ∈ GW := mwq (tb4 _ (List.mem_of_getElem? (i := 217) (by decide +kernel))) (by decide +kernel)
theorem mw788 : Cond.code yX9_descendants cX9_descendants 2 (some .long) ∈ GW := mwq (tb4 _ (List.mem_of_getElem? (i := 218) (by decide +kernel))) (by decide +kernel)
theorem mw789 : Cond.methodLink RX9 297 yX1_below ∈ GW := mwq (tb4 _ (List.mem_of_getElem? (i := 219) (by decide +kernel))) (by decide +kernel)
theorem mw790 : Cond.instanceMethod yX1_below ∈ GW := mwq (tb4 _ (List.mem_of_getElem? (i := 220) (by decide +kernel))) (by decide +kernel)
theorem mw791 : Cond.selects RX1 yX1_below yX1_below ∈ GW := mwq (tb4 _ (List.mem_of_getElem? (i := 221) (by decide +kernel))) (by decide +kernel)
theorem mw792 : Cond.code yX1_below cX1_below 2 (some .int) ∈ GW := mwq (tb4 _ (List.mem_of_getElem? (i := 222) (by decide +kernel))) (by decide +kernel)
theorem mw793 : Cond.methodLink RL 144 yX9_order ∈ GW := mwq (tb4 _ (List.mem_of_getElem? (i := 223) (by decide +kernel))) (by decide +kernel)
theorem mw794 : Cond.instanceMethod yX9_order ∈ GW := mwq (tb4 _ (List.mem_of_getElem? (i := 224) (by decide +kernel))) (by decide +kernel)
theorem mw795 : Cond.selects RX9 yX9_order yX9_order ∈ GW := mwq (tb4 _ (List.mem_of_getElem? (i := 225) (by decide +kernel))) (by decide +kernel)
theorem mw796 : Cond.code yX9_order cX9_order 2 (some .int) ∈ GW := mwq (tb4 _ (List.mem_of_getElem? (i := 226) (by decide +kernel))) (by decide +kernel)
theorem mw797 : Cond.methodLink RL 148 yX9_ahead ∈ GW := mwq (tb4 _ (List.mem_of_getElem? (i := 227) (by decide +kernel))) (by decide +kernel)
theorem mw798 : Cond.instanceMethod yX9_ahead ∈ GW := mwq (tb4 _ (List.mem_of_getElem? (i := 228) (by decide +kernel))) (by decide +kernel)
theorem mw799 : Cond.selects RX9 yX9_ahead yX9_ahead ∈ GW := mwq (tb4 _ (List.mem_of_getElem? (i := 229) (by decide +kernel))) (by decide +kernel)
theorem mw800 : Cond.code yX9_ahead cX9_ahead 4 (some .int) ∈ GW := mwq (tb4 _ (List.mem_of_getElem? (i := 230) (by decide +kernel))) (by decide +kernel)
theorem mw801 : Cond.methodLink RL 152 yX9_told ∈ GW := mwq (tb4 _ (List.mem_of_getElem? (i := 231) (by decide +kernel))) (by decide +kernel)
theorem mw802 : Cond.instanceMethod yX9_told ∈ GW := mwq (tb4 _ (List.mem_of_getElem? (i := 232) (by decide +kernel))) (by decide +kernel)
theorem mw803 : Cond.selects RX9 yX9_told yX9_told ∈ GW := mwq (tb4 _ (List.mem_of_getElem? (i := 233) (by decide +kernel))) (by decide +kernel)
theorem mw804 : Cond.code yX9_told cX9_told 2 (some .int) ∈ GW := mwq (tb4 _ (List.mem_of_getElem? (i := 234) (by decide +kernel))) (by decide +kernel)
theorem mw805 : Cond.methodLink RX9 309 yX0_unlikeNames ∈ GW := mwq (tb4 _ (List.mem_of_getElem? (i := 235) (by decide +kernel))) (by decide +kernel)
theorem mw806 : Cond.instanceMethod yX0_unlikeNames ∈ GW := mwq (tb4 _ (List.mem_of_getElem? (i := 236) (by decide +kernel))) (by decide +kernel)
theorem mw807 : Cond.selects RX0 yX0_unlikeNames yX0_unlikeNames ∈ GW := mwq (tb4 _ (List.mem_of_getElem? (i := 237) (by decide +kernel))) (by decide +kernel)
theorem mw808 : Cond.code yX0_unlikeNames cX0_unlikeNames 5 (some .int) ∈ GW := mwq (tb4 _ (List.mem_of_getElem? (i := 238) (by decide +kernel))) (by decide +kernel)
theorem mw809 : Cond.methodLink RX9 312 yX1_greatestGeneration ∈ GW := mwq (tb4 _ (List.mem_of_getElem? (i := 239) (by decide +kernel))) (by decide +kernel)
theorem mw810 : Cond.instanceMethod yX1_greatestGeneration ∈ GW := mwq (tb5 _ (List.mem_of_getElem? (i := 0) (by decide +kernel))) (by decide +kernel)
theorem mw811 : Cond.selects RX1 yX1_greatestGeneration yX1_greatestGeneration ∈ GW := mwq (tb5 _ (List.mem_of_getElem? (i := 1) (by decide +kernel))) (by decide +kernel)
theorem mw812 : Cond.code yX1_greatestGeneration cX1_greatestGeneration 3 (some .int) ∈ GW := mwq (tb5 _ (List.mem_of_getElem? (i := 2) (by decide +kernel))) (by decide +kernel)
theorem mw813 : Cond.methodLink RL 156 yX9_list ∈ GW := mwq (tb5 _ (List.mem_of_getElem? (i := 3) (by decide +kernel))) (by decide +kernel)
theorem mw814 : Cond.instanceMethod yX9_list ∈ GW := mwq (tb5 _ (List.mem_of_getElem? (i := 4) (by decide +kernel))) (by decide +kernel)
theorem mw815 : Cond.selects RX9 yX9_list yX9_list ∈ GW := mwq (tb5 _ (List.mem_of_getElem? (i := 5) (by decide +kernel))) (by decide +kernel)
theorem mw816 : Cond.code yX9_list cX9_list 3 (some .int) ∈ GW := mwq (tb5 _ (List.mem_of_getElem? (i := 6) (by decide +kernel))) (by decide +kernel)
theorem mw817 : Cond.methodLink RX9 315 yX2_isList ∈ GW := mwq (tb5 _ (List.mem_of_getElem? (i := 7) (by decide +kernel))) (by decide +kernel)
theorem mw818 : Cond.instanceMethod yX2_isList ∈ GW := mwq (tb5 _ (List.mem_of_getElem? (i := 8) (by decide +kernel))) (by decide +kernel)
theorem mw819 : Cond.selects RX2 yX2_isList yX2_isList ∈ GW := mwq (tb5 _ (List.mem_of_getElem? (i := 9) (by decide +kernel))) (by decide +kernel)
theorem mw820 : Cond.code yX2_isList cX2_isList 2 (some .boolean) ∈ GW := mwq (tb5 _ (List.mem_of_getElem? (i := 10) (by decide +kernel))) (by decide +kernel)
theorem mw821 : Cond.methodLink RX9 318 yX2_begin ∈ GW := mwq (tb5 _ (List.mem_of_getElem? (i := 11) (by decide +kernel))) (by decide +kernel)
theorem mw822 : Cond.instanceMethod yX2_begin ∈ GW := mwq (tb5 _ (List.mem_of_getElem? (i := 12) (by decide +kernel))) (by decide +kernel)
theorem mw823 : Cond.selects RX2 yX2_begin yX2_begin ∈ GW := mwq (tb5 _ (List.mem_of_getElem? (i := 13) (by decide +kernel))) (by decide +kernel)
theorem mw824 : Cond.code yX2_begin cX2_begin 4 none ∈ GW := mwq (tb5 _ (List.mem_of_getElem? (i := 14) (by decide +kernel))) (by decide +kernel)
theorem mw825 : Cond.methodLink RL 160 yX9_set ∈ GW := mwq (tb5 _ (List.mem_of_getElem? (i := 15) (by decide +kernel))) (by decide +kernel)
theorem mw826 : Cond.instanceMethod yX9_set ∈ GW := mwq (tb5 _ (List.mem_of_getElem? (i := 16) (by decide +kernel))) (by decide +kernel)
theorem mw827 : Cond.selects RX9 yX9_set yX9_set ∈ GW := mwq (tb5 _ (List.mem_of_getElem? (i := 17) (by decide +kernel))) (by decide +kernel)
theorem mw828 : Cond.code yX9_set cX9_set 4 (some .int) ∈ GW := mwq (tb5 _ (List.mem_of_getElem? (i := 18) (by decide +kernel))) (by decide +kernel)
theorem mw829 : Cond.methodLink RX9 324 yX2_hasPlace ∈ GW := mwq (tb5 _ (List.mem_of_getElem? (i := 19) (by decide +kernel))) (by decide +kernel)
theorem mw830 : Cond.instanceMethod yX2_hasPlace ∈ GW := mwq (tb5 _ (List.mem_of_getElem? (i := 20) (by decide +kernel))) (by decide +kernel)
theorem mw831 : Cond.selects RX2 yX2_hasPlace yX2_hasPlace ∈ GW := mwq (tb5 _ (List.mem_of_getElem? (i := 21) (by decide +kernel))) (by decide +kernel)
theorem mw832 : Cond.code yX2_hasPlace cX2_hasPlace 4 (some .boolean) ∈ GW := mwq (tb5 _ (List.mem_of_getElem? (i := 22) (by decide +kernel))) (by decide +kernel)
theorem mw833 : Cond.methodLink RL 164 yX9_get ∈ GW := mwq (tb5 _ (List.mem_of_getElem? (i := 23) (by decide +kernel))) (by decide +kernel)
theorem mw834 : Cond.instanceMethod yX9_get ∈ GW := mwq (tb5 _ (List.mem_of_getElem? (i := 24) (by decide +kernel))) (by decide +kernel)
theorem mw835 : Cond.selects RX9 yX9_get yX9_get ∈ GW := mwq (tb5 _ (List.mem_of_getElem? (i := 25) (by decide +kernel))) (by decide +kernel)
theorem mw836 : Cond.code yX9_get cX9_get 3 (some .long) ∈ GW := mwq (tb5 _ (List.mem_of_getElem? (i := 26) (by decide +kernel))) (by decide +kernel)
theorem mw837 : Cond.methodLink RL 168 yX9_lay ∈ GW := mwq (tb5 _ (List.mem_of_getElem? (i := 27) (by decide +kernel))) (by decide +kernel)
theorem mw838 : Cond.instanceMethod yX9_lay ∈ GW := mwq (tb5 _ (List.mem_of_getElem? (i := 28) (by decide +kernel))) (by decide +kernel)
theorem mw839 : Cond.selects RX9 yX9_lay yX9_lay ∈ GW := mwq (tb5 _ (List.mem_of_getElem? (i := 29) (by decide +kernel))) (by decide +kernel)
theorem mw840 : Cond.code yX9_lay cX9_lay 4 (some .int) ∈ GW := mwq (tb5 _ (List.mem_of_getElem? (i := 30) (by decide +kernel))) (by decide +kernel)
theorem mw841 : Cond.methodLink RL 172 yX9_judge ∈ GW := mwq (tb5 _ (List.mem_of_getElem? (i := 31) (by decide +kernel))) (by decide +kernel)
theorem mw842 : Cond.instanceMethod yX9_judge ∈ GW := mwq (tb5 _ (List.mem_of_getElem? (i := 32) (by decide +kernel))) (by decide +kernel)
theorem mw843 : Cond.selects RX9 yX9_judge yX9_judge ∈ GW := mwq (tb5 _ (List.mem_of_getElem? (i := 33) (by decide +kernel))) (by decide +kernel)
theorem mw844 : Cond.code yX9_judge cX9_judge 4 (some .int) ∈ GW := mwq (tb5 _ (List.mem_of_getElem? (i := 34) (by decide +kernel))) (by decide +kernel)
theorem mw845 : Cond.methodLink RL 176 yX9_image ∈ GW := mwq (tb5 _ (List.mem_of_getElem? (i := 35) (by decide +kernel))) (by decide +kernel)
theorem mw846 : Cond.instanceMethod yX9_image ∈ GW := mwq (tb5 _ (List.mem_of_getElem? (i := 36) (by decide +kernel))) (by decide +kernel)
theorem mw847 : Cond.selects RX9 yX9_image yX9_image ∈ GW := mwq (tb5 _ (List.mem_of_getElem? (i := 37) (by decide +kernel))) (by decide +kernel)
theorem mw848 : Cond.code yX9_image cX9_image 1 (some .int) ∈ GW := mwq (tb5 _ (List.mem_of_getElem? (i := 38) (by decide +kernel))) (by decide +kernel)
theorem mw849 : Cond.methodLink RX9 331 yX0_copyFrom ∈ GW := mwq (tb5 _ (List.mem_of_getElem? (i := 39) (by decide +kernel))) (by decide +kernel)
theorem mw850 : Cond.instanceMethod yX0_copyFrom ∈ GW := mwq (tb5 _ (List.mem_of_getElem? (i := 40) (by decide +kernel))) (by decide +kernel)
theorem mw851 : Cond.selects RX0 yX0_copyFrom yX0_copyFrom ∈ GW := mwq (tb5 _ (List.mem_of_getElem? (i := 41) (by decide +kernel))) (by decide +kernel)
theorem mw852 : Cond.code yX0_copyFrom cX0_copyFrom 3 none ∈ GW := mwq (tb5 _ (List.mem_of_getElem? (i := 42) (by decide +kernel))) (by decide +kernel)
theorem mw853 : Cond.methodLink RX0 74 arraycopyName ∈ GW := mwq (tb5 _ (List.mem_of_getElem? (i := 43) (by decide +kernel))) (by decide +kernel)
theorem mw854 : Cond.methodLink RL 180 yX9_undo ∈ GW := mwq (tb5 _ (List.mem_of_getElem? (i := 44) (by decide +kernel))) (by decide +kernel)
theorem mw855 : Cond.instanceMethod yX9_undo ∈ GW := mwq (tb5 _ (List.mem_of_getElem? (i := 45) (by decide +kernel))) (by decide +kernel)
theorem mw856 : Cond.selects RX9 yX9_undo yX9_undo ∈ GW := mwq (tb5 _ (List.mem_of_getElem? (i := 46) (by decide +kernel))) (by decide +kernel)
theorem mw857 : Cond.code yX9_undo cX9_undo 1 (some .int) ∈ GW := mwq (tb5 _ (List.mem_of_getElem? (i := 47) (by decide +kernel))) (by decide +kernel)
theorem mw858 : Cond.classLink RL 10 RX10 ∈ GW := mwq (tb5 _ (List.mem_of_getElem? (i := 48) (by decide +kernel))) (by decide +kernel)
theorem mw859 : Cond.instantiable RX10 31 ∈ GW := mwq (tb5 _ (List.mem_of_getElem? (i := 49) (by decide +kernel))) (by decide +kernel)
theorem mw860 : Cond.methodLink RL 12 yX10_init ∈ GW := mwq (tb5 _ (List.mem_of_getElem? (i := 50) (by decide +kernel))) (by decide +kernel)
theorem mw861 : Cond.instanceMethod yX10_init ∈ GW := mwq (tb5 _ (List.mem_of_getElem? (i := 51) (by decide +kernel))) (by decide +kernel)
theorem mw862 : Cond.code yX10_init cX10_init 2 none ∈ GW := mwq (tb5 _ (List.mem_of_getElem? (i := 52) (by decide +kernel))) (by decide +kernel)
theorem mw863 : Cond.methodLink RX10 5 objectInit ∈ GW := mwq (tb5 _ (List.mem_of_getElem? (i := 53) (by decide +kernel))) (by decide +kernel)
theorem mw864 : Cond.methodLink RX10 69 yX10_works ∈ GW := mwq (tb5 _ (List.mem_of_getElem? (i := 54) (by decide +kernel))) (by decide +kernel)
theorem mw865 : Cond.instanceMethod yX10_works ∈ GW := mwq (tb5 _ (List.mem_of_getElem? (i := 56) (by decide +kernel))) (by decide +kernel)
theorem mw866 : Cond.code yX10_works cX10_works 2 none ∈ GW := mwq (tb5 _ (List.mem_of_getElem? (i := 57) (by decide +kernel))) (by decide +kernel)
theorem mw867 : Cond.methodLink RX10 144 yX10_joins ∈ GW := mwq (tb5 _ (List.mem_of_getElem? (i := 58) (by decide +kernel))) (by decide +kernel)
theorem mw868 : Cond.instanceMethod yX10_joins ∈ GW := mwq (tb5 _ (List.mem_of_getElem? (i := 60) (by decide +kernel))) (by decide +kernel)
theorem mw869 : Cond.code yX10_joins cX10_joins 6 none ∈ GW := mwq (tb5 _ (List.mem_of_getElem? (i := 61) (by decide +kernel))) (by decide +kernel)
theorem mw870 : Cond.methodLink RX10 80 yX10_isLive ∈ GW := mwq (tb5 _ (List.mem_of_getElem? (i := 62) (by decide +kernel))) (by decide +kernel)
theorem mw871 : Cond.instanceMethod yX10_isLive ∈ GW := mwq (tb5 _ (List.mem_of_getElem? (i := 64) (by decide +kernel))) (by decide +kernel)
theorem mw872 : Cond.code yX10_isLive cX10_isLive 3 (some .boolean) ∈ GW := mwq (tb5 _ (List.mem_of_getElem? (i := 65) (by decide +kernel))) (by decide +kernel)
theorem mw873 : Cond.methodLink RX10 76 yX10_told ∈ GW := mwq (tb5 _ (List.mem_of_getElem? (i := 66) (by decide +kernel))) (by decide +kernel)
theorem mw874 : Cond.instanceMethod yX10_told ∈ GW := mwq (tb5 _ (List.mem_of_getElem? (i := 68) (by decide +kernel))) (by decide +kernel)
theorem mw875 : Cond.code yX10_told cX10_told 3 (some .int) ∈ GW := mwq (tb5 _ (List.mem_of_getElem? (i := 69) (by decide +kernel))) (by decide +kernel)
theorem mw876 : Cond.methodLink RX10 84 Lib.Math.min.name ∈ GW := mwq (tb5 _ (List.mem_of_getElem? (i := 70) (by decide +kernel))) (by decide +kernel)
theorem mw877 : Cond.methodLink RX10 147 yX10_parents ∈ GW := mwq (tb5 _ (List.mem_of_getElem? (i := 71) (by decide +kernel))) (by decide +kernel)
theorem mw878 : Cond.instanceMethod yX10_parents ∈ GW := mwq (tb5 _ (List.mem_of_getElem? (i := 73) (by decide +kernel))) (by decide +kernel)
theorem mw879 : Cond.code yX10_parents cX10_parents 5 none ∈ GW := mwq (tb5 _ (List.mem_of_getElem? (i := 74) (by decide +kernel))) (by decide +kernel)
theorem mw880 : Cond.methodLink RX10 89 yX10_has ∈ GW := mwq (tb5 _ (List.mem_of_getElem? (i := 75) (by decide +kernel))) (by decide +kernel)
theorem mw881 : Cond.static yX10_has ∈ GW := mwq (tb5 _ (List.mem_of_getElem? (i := 76) (by decide +kernel))) (by decide +kernel)
theorem mw882 : Cond.code yX10_has cX10_has 2 (some .boolean) ∈ GW := mwq (tb5 _ (List.mem_of_getElem? (i := 77) (by decide +kernel))) (by decide +kernel)
theorem mw883 : Cond.methodLink RX10 153 yX10_looks ∈ GW := mwq (tb5 _ (List.mem_of_getElem? (i := 78) (by decide +kernel))) (by decide +kernel)
theorem mw884 : Cond.instanceMethod yX10_looks ∈ GW := mwq (tb5 _ (List.mem_of_getElem? (i := 80) (by decide +kernel))) (by decide +kernel)
theorem mw885 : Cond.code yX10_looks cX10_looks 2 none ∈ GW := mwq (tb5 _ (List.mem_of_getElem? (i := 81) (by decide +kernel))) (by decide +kernel)
theorem mw886 : Cond.methodLink RX10 103 yX10_isOne ∈ GW := mwq (tb5 _ (List.mem_of_getElem? (i := 82) (by decide +kernel))) (by decide +kernel)
theorem mw887 : Cond.instanceMethod yX10_isOne ∈ GW := mwq (tb5 _ (List.mem_of_getElem? (i := 84) (by decide +kernel))) (by decide +kernel)
theorem mw888 : Cond.code yX10_isOne cX10_isOne 2 (some .boolean) ∈ GW := mwq (tb5 _ (List.mem_of_getElem? (i := 85) (by decide +kernel))) (by decide +kernel)
theorem mw889 : Cond.methodLink RX10 107 yX10_sexes ∈ GW := mwq (tb5 _ (List.mem_of_getElem? (i := 86) (by decide +kernel))) (by decide +kernel)
theorem mw890 : Cond.instanceMethod yX10_sexes ∈ GW := mwq (tb5 _ (List.mem_of_getElem? (i := 88) (by decide +kernel))) (by decide +kernel)
theorem mw891 : Cond.code yX10_sexes cX10_sexes 4 (some .int) ∈ GW := mwq (tb5 _ (List.mem_of_getElem? (i := 89) (by decide +kernel))) (by decide +kernel)
theorem mw892 : Cond.methodLink RX10 92 yX10_sexOf ∈ GW := mwq (tb5 _ (List.mem_of_getElem? (i := 90) (by decide +kernel))) (by decide +kernel)
theorem mw893 : Cond.instanceMethod yX10_sexOf ∈ GW := mwq (tb5 _ (List.mem_of_getElem? (i := 92) (by decide +kernel))) (by decide +kernel)
theorem mw894 : Cond.code yX10_sexOf cX10_sexOf 2 (some .int) ∈ GW := mwq (tb5 _ (List.mem_of_getElem? (i := 93) (by decide +kernel))) (by decide +kernel)
theorem mw895 : Cond.methodLink RX10 110 yX10_clashes ∈ GW := mwq (tb5 _ (List.mem_of_getElem? (i := 94) (by decide +kernel))) (by decide +kernel)
theorem mw896 : Cond.instanceMethod yX10_clashes ∈ GW := mwq (tb5 _ (List.mem_of_getElem? (i := 96) (by decide +kernel))) (by decide +kernel)
theorem mw897 : Cond.code yX10_clashes cX10_clashes 3 none ∈ GW := mwq (tb5 _ (List.mem_of_getElem? (i := 97) (by decide +kernel))) (by decide +kernel)
theorem mw898 : Cond.methodLink RX10 114 yX10_ones ∈ GW := mwq (tb5 _ (List.mem_of_getElem? (i := 98) (by decide +kernel))) (by decide +kernel)
theorem mw899 : Cond.static yX10_ones ∈ GW := mwq (tb5 _ (List.mem_of_getElem? (i := 99) (by decide +kernel))) (by decide +kernel)
theorem mw900 : Cond.code yX10_ones cX10_ones 3 (some .int) ∈ GW := mwq (tb5 _ (List.mem_of_getElem? (i := 100) (by decide +kernel))) (by decide +kernel)
theorem mw901 : Cond.methodLink RX10 128 yX10_bornOf ∈ GW := mwq (tb5 _ (List.mem_of_getElem? (i := 101) (by decide +kernel))) (by decide +kernel)
theorem mw902 : Cond.static yX10_bornOf ∈ GW := mwq (tb5 _ (List.mem_of_getElem? (i := 102) (by decide +kernel))) (by decide +kernel)
theorem mw903 : Cond.code yX10_bornOf cX10_bornOf 1 (some .int) ∈ GW := mwq (tb5 _ (List.mem_of_getElem? (i := 103) (by decide +kernel))) (by decide +kernel)
theorem mw904 : Cond.methodLink RX10 131 yX10_differ ∈ GW := mwq (tb5 _ (List.mem_of_getElem? (i := 104) (by decide +kernel))) (by decide +kernel)
theorem mw905 : Cond.instanceMethod yX10_differ ∈ GW := mwq (tb5 _ (List.mem_of_getElem? (i := 106) (by decide +kernel))) (by decide +kernel)
theorem mw906 : Cond.code yX10_differ cX10_differ 6 none ∈ GW := mwq (tb5 _ (List.mem_of_getElem? (i := 107) (by decide +kernel))) (by decide +kernel)
theorem mw907 : Cond.methodLink RX10 124 yX10_narrows ∈ GW := mwq (tb5 _ (List.mem_of_getElem? (i := 108) (by decide +kernel))) (by decide +kernel)
theorem mw908 : Cond.instanceMethod yX10_narrows ∈ GW := mwq (tb5 _ (List.mem_of_getElem? (i := 110) (by decide +kernel))) (by decide +kernel)
theorem mw909 : Cond.code yX10_narrows cX10_narrows 5 none ∈ GW := mwq (tb5 _ (List.mem_of_getElem? (i := 111) (by decide +kernel))) (by decide +kernel)
theorem mw910 : Cond.methodLink RX10 156 yX10_applies ∈ GW := mwq (tb5 _ (List.mem_of_getElem? (i := 112) (by decide +kernel))) (by decide +kernel)
theorem mw911 : Cond.instanceMethod yX10_applies ∈ GW := mwq (tb5 _ (List.mem_of_getElem? (i := 114) (by decide +kernel))) (by decide +kernel)
theorem mw912 : Cond.code yX10_applies cX10_applies 5 none ∈ GW := mwq (tb5 _ (List.mem_of_getElem? (i := 115) (by decide +kernel))) (by decide +kernel)
theorem mw913 : Cond.methodLink RX10 135 yX10_isWithin ∈ GW := mwq (tb5 _ (List.mem_of_getElem? (i := 116) (by decide +kernel))) (by decide +kernel)
theorem mw914 : Cond.instanceMethod yX10_isWithin ∈ GW := mwq (tb5 _ (List.mem_of_getElem? (i := 118) (by decide +kernel))) (by decide +kernel)
theorem mw915 : Cond.code yX10_isWithin cX10_isWithin 4 none ∈ GW := mwq (tb5 _ (List.mem_of_getElem? (i := 119) (by decide +kernel))) (by decide +kernel)
theorem mw916 : Cond.methodLink RX10 138 yX10_yearOf ∈ GW := mwq (tb5 _ (List.mem_of_getElem? (i := 120) (by decide +kernel))) (by decide +kernel)
theorem mw917 : Cond.static yX10_yearOf ∈ GW := mwq (tb5 _ (List.mem_of_getElem? (i := 121) (by decide +kernel))) (by decide +kernel)
theorem mw918 : Cond.code yX10_yearOf cX10_yearOf 1 (some .int) ∈ GW := mwq (tb5 _ (List.mem_of_getElem? (i := 122) (by decide +kernel))) (by decide +kernel)
theorem mw919 : Cond.methodLink RX10 141 yX10_weds ∈ GW := mwq (tb5 _ (List.mem_of_getElem? (i := 123) (by decide +kernel))) (by decide +kernel)
theorem mw920 : Cond.instanceMethod yX10_weds ∈ GW := mwq (tb5 _ (List.mem_of_getElem? (i := 125) (by decide +kernel))) (by decide +kernel)
theorem mw921 : Cond.code yX10_weds cX10_weds 3 none ∈ GW := mwq (tb5 _ (List.mem_of_getElem? (i := 126) (by decide +kernel))) (by decide +kernel)
theorem mw922 : Cond.fieldLink RX10 11 "KinProverModel" "s" "[I" ∈ GW := mwq (tb5 _ (List.mem_of_getElem? (i := 127) (by decide +kernel))) (by decide +kernel)
theorem mw923 : Cond.fieldLink RX10 15 "KinProverModel" "image" "[I" ∈ GW := mwq (tb5 _ (List.mem_of_getElem? (i := 128) (by decide +kernel))) (by decide +kernel)
theorem mw924 : Cond.fieldLink RX10 362 "KinProverModel" "isKept" "Z" ∈ GW := mwq (tb5 _ (List.mem_of_getElem? (i := 129) (by decide +kernel))) (by decide +kernel)
theorem mw925 : Cond.fieldLink RX10 18 "KinProverModel" "tape" "[I" ∈ GW := mwq (tb5 _ (List.mem_of_getElem? (i := 130) (by decide +kernel))) (by decide +kernel)
theorem mw926 : Cond.fieldLink RX10 21 "KinProverModel" "paper" "[I" ∈ GW := mwq (tb5 _ (List.mem_of_getElem? (i := 131) (by decide +kernel))) (by decide +kernel)
theorem mw927 : Cond.fieldLink RX10 24 "KinProverModel" "read" "[I" ∈ GW := mwq (tb5 _ (List.mem_of_getElem? (i := 132) (by decide +kernel))) (by decide +kernel)
theorem mw928 : Cond.fieldLink RX10 160 "KinProverModel" "letters" "I" ∈ GW := mwq (tb5 _ (List.mem_of_getElem? (i := 133) (by decide +kernel))) (by decide +kernel)
theorem mw929 : Cond.fieldLink RX10 163 "KinProverModel" "papers" "I" ∈ GW := mwq (tb5 _ (List.mem_of_getElem? (i := 134) (by decide +kernel))) (by decide +kernel)
theorem mw930 : Cond.fieldLink RX10 176 "KinProverModel" "at" "I" ∈ GW := mwq (tb5 _ (List.mem_of_getElem? (i := 135) (by decide +kernel))) (by decide +kernel)
theorem mw931 : Cond.fieldLink RX10 173 "KinProverModel" "fault" "I" ∈ GW := mwq (tb5 _ (List.mem_of_getElem? (i := 136) (by decide +kernel))) (by decide +kernel)
theorem mw932 : Cond.fieldLink RX10 27 "KinProverModel" "one" "[I" ∈ GW := mwq (tb5 _ (List.mem_of_getElem? (i := 137) (by decide +kernel))) (by decide +kernel)
theorem mw933 : Cond.fieldLink RX10 30 "KinProverModel" "mother" "[I" ∈ GW := mwq (tb5 _ (List.mem_of_getElem? (i := 138) (by decide +kernel))) (by decide +kernel)
theorem mw934 : Cond.fieldLink RX10 33 "KinProverModel" "father" "[I" ∈ GW := mwq (tb5 _ (List.mem_of_getElem? (i := 139) (by decide +kernel))) (by decide +kernel)
theorem mw935 : Cond.fieldLink RX10 36 "KinProverModel" "above" "[I" ∈ GW := mwq (tb5 _ (List.mem_of_getElem? (i := 140) (by decide +kernel))) (by decide +kernel)
theorem mw936 : Cond.fieldLink RX10 39 "KinProverModel" "end" "[I" ∈ GW := mwq (tb5 _ (List.mem_of_getElem? (i := 141) (by decide +kernel))) (by decide +kernel)
theorem mw937 : Cond.fieldLink RX10 42 "KinProverModel" "rule" "[I" ∈ GW := mwq (tb5 _ (List.mem_of_getElem? (i := 142) (by decide +kernel))) (by decide +kernel)
theorem mw938 : Cond.fieldLink RX10 45 "KinProverModel" "from" "[I" ∈ GW := mwq (tb5 _ (List.mem_of_getElem? (i := 143) (by decide +kernel))) (by decide +kernel)
theorem mw939 : Cond.fieldLink RX10 96 "KinProverModel" "clash" "I" ∈ GW := mwq (tb5 _ (List.mem_of_getElem? (i := 144) (by decide +kernel))) (by decide +kernel)
theorem mw940 : Cond.fieldLink RX10 100 "KinProverModel" "whom" "I" ∈ GW := mwq (tb5 _ (List.mem_of_getElem? (i := 145) (by decide +kernel))) (by decide +kernel)
theorem mw941 : Cond.fieldLink RX10 150 "KinProverModel" "rounds" "I" ∈ GW := mwq (tb5 _ (List.mem_of_getElem? (i := 146) (by decide +kernel))) (by decide +kernel)
theorem mw942 : Cond.fieldLink RX10 117 "KinProverModel" "ruled" "I" ∈ GW := mwq (tb5 _ (List.mem_of_getElem? (i := 147) (by decide +kernel))) (by decide +kernel)
theorem mw943 : Cond.fieldLink RX10 120 "KinProverModel" "isChanged" "Z" ∈ GW := mwq (tb5 _ (List.mem_of_getElem? (i := 148) (by decide +kernel))) (by decide +kernel)
theorem mw944 : Cond.fieldLink RX10 48 "KinProverModel" "up" "[I" ∈ GW := mwq (tb5 _ (List.mem_of_getElem? (i := 149) (by decide +kernel))) (by decide +kernel)
theorem mw945 : Cond.fieldLink RX10 51 "KinProverModel" "down" "[I" ∈ GW := mwq (tb5 _ (List.mem_of_getElem? (i := 150) (by decide +kernel))) (by decide +kernel)
theorem mw946 : Cond.fieldLink RX10 54 "KinProverModel" "path" "[I" ∈ GW := mwq (tb5 _ (List.mem_of_getElem? (i := 151) (by decide +kernel))) (by decide +kernel)
theorem mw947 : Cond.fieldLink RX10 57 "KinProverModel" "born" "[I" ∈ GW := mwq (tb5 _ (List.mem_of_getElem? (i := 152) (by decide +kernel))) (by decide +kernel)
theorem mw948 : Cond.fieldLink RX10 60 "KinProverModel" "age" "[I" ∈ GW := mwq (tb5 _ (List.mem_of_getElem? (i := 153) (by decide +kernel))) (by decide +kernel)
theorem mw949 : Cond.fieldLink RX10 265 "KinProverModel" "ancestor" "I" ∈ GW := mwq (tb5 _ (List.mem_of_getElem? (i := 154) (by decide +kernel))) (by decide +kernel)
theorem mw950 : Cond.fieldLink RX10 344 "KinProverModel" "paths" "I" ∈ GW := mwq (tb5 _ (List.mem_of_getElem? (i := 155) (by decide +kernel))) (by decide +kernel)
theorem mw951 : Cond.fieldLink RX10 63 "KinProverModel" "items" "[I" ∈ GW := mwq (tb5 _ (List.mem_of_getElem? (i := 156) (by decide +kernel))) (by decide +kernel)
theorem mw952 : Cond.fieldLink RX10 66 "KinProverModel" "cell" "[I" ∈ GW := mwq (tb5 _ (List.mem_of_getElem? (i := 157) (by decide +kernel))) (by decide +kernel)
theorem mw953 : Cond.laysFinal RX10 "KinProverModel" "s" "[I" ∈ GW := mwq (tb5 _ (List.mem_of_getElem? (i := 158) (by decide +kernel))) (by decide +kernel)
theorem mw954 : Cond.laysFinal RX10 "KinProverModel" "image" "[I" ∈ GW := mwq (tb5 _ (List.mem_of_getElem? (i := 160) (by decide +kernel))) (by decide +kernel)
theorem mw955 : Cond.lays RX10 "KinProverModel" "isKept" "Z" ∈ GW := mwq (tb5 _ (List.mem_of_getElem? (i := 162) (by decide +kernel))) (by decide +kernel)
theorem mw956 : Cond.laysFinal RX10 "KinProverModel" "tape" "[I" ∈ GW := mwq (tb5 _ (List.mem_of_getElem? (i := 164) (by decide +kernel))) (by decide +kernel)
theorem mw957 : Cond.laysFinal RX10 "KinProverModel" "paper" "[I" ∈ GW := mwq (tb5 _ (List.mem_of_getElem? (i := 166) (by decide +kernel))) (by decide +kernel)
theorem mw958 : Cond.laysFinal RX10 "KinProverModel" "read" "[I" ∈ GW := mwq (tb5 _ (List.mem_of_getElem? (i := 168) (by decide +kernel))) (by decide +kernel)
theorem mw959 : Cond.lays RX10 "KinProverModel" "letters" "I" ∈ GW := mwq (tb5 _ (List.mem_of_getElem? (i := 170) (by decide +kernel))) (by decide +kernel)
theorem mw960 : Cond.lays RX10 "KinProverModel" "papers" "I" ∈ GW := mwq (tb5 _ (List.mem_of_getElem? (i := 172) (by decide +kernel))) (by decide +kernel)
theorem mw961 : Cond.lays RX10 "KinProverModel" "at" "I" ∈ GW := mwq (tb5 _ (List.mem_of_getElem? (i := 174) (by decide +kernel))) (by decide +kernel)
theorem mw962 : Cond.lays RX10 "KinProverModel" "fault" "I" ∈ GW := mwq (tb5 _ (List.mem_of_getElem? (i := 176) (by decide +kernel))) (by decide +kernel)
theorem mw963 : Cond.laysFinal RX10 "KinProverModel" "one" "[I" ∈ GW := mwq (tb5 _ (List.mem_of_getElem? (i := 178) (by decide +kernel))) (by decide +kernel)
theorem mw964 : Cond.laysFinal RX10 "KinProverModel" "mother" "[I" ∈ GW := mwq (tb5 _ (List.mem_of_getElem? (i := 180) (by decide +kernel))) (by decide +kernel)
theorem mw965 : Cond.laysFinal RX10 "KinProverModel" "father" "[I" ∈ GW := mwq (tb5 _ (List.mem_of_getElem? (i := 182) (by decide +kernel))) (by decide +kernel)
theorem mw966 : Cond.laysFinal RX10 "KinProverModel" "above" "[I" ∈ GW := mwq (tb5 _ (List.mem_of_getElem? (i := 184) (by decide +kernel))) (by decide +kernel)
theorem mw967 : Cond.laysFinal RX10 "KinProverModel" "end" "[I" ∈ GW := mwq (tb5 _ (List.mem_of_getElem? (i := 186) (by decide +kernel))) (by decide +kernel)
theorem mw968 : Cond.laysFinal RX10 "KinProverModel" "rule" "[I" ∈ GW := mwq (tb5 _ (List.mem_of_getElem? (i := 188) (by decide +kernel))) (by decide +kernel)
theorem mw969 : Cond.laysFinal RX10 "KinProverModel" "from" "[I" ∈ GW := mwq (tb5 _ (List.mem_of_getElem? (i := 190) (by decide +kernel))) (by decide +kernel)
theorem mw970 : Cond.lays RX10 "KinProverModel" "clash" "I" ∈ GW := mwq (tb5 _ (List.mem_of_getElem? (i := 192) (by decide +kernel))) (by decide +kernel)
theorem mw971 : Cond.lays RX10 "KinProverModel" "whom" "I" ∈ GW := mwq (tb5 _ (List.mem_of_getElem? (i := 194) (by decide +kernel))) (by decide +kernel)
theorem mw972 : Cond.lays RX10 "KinProverModel" "rounds" "I" ∈ GW := mwq (tb5 _ (List.mem_of_getElem? (i := 196) (by decide +kernel))) (by decide +kernel)
theorem mw973 : Cond.lays RX10 "KinProverModel" "ruled" "I" ∈ GW := mwq (tb5 _ (List.mem_of_getElem? (i := 198) (by decide +kernel))) (by decide +kernel)
theorem mw974 : Cond.lays RX10 "KinProverModel" "isChanged" "Z" ∈ GW := mwq (tb5 _ (List.mem_of_getElem? (i := 200) (by decide +kernel))) (by decide +kernel)
theorem mw975 : Cond.laysFinal RX10 "KinProverModel" "up" "[I" ∈ GW := mwq (tb5 _ (List.mem_of_getElem? (i := 202) (by decide +kernel))) (by decide +kernel)
theorem mw976 : Cond.laysFinal RX10 "KinProverModel" "down" "[I" ∈ GW := mwq (tb5 _ (List.mem_of_getElem? (i := 204) (by decide +kernel))) (by decide +kernel)
theorem mw977 : Cond.laysFinal RX10 "KinProverModel" "path" "[I" ∈ GW := mwq (tb5 _ (List.mem_of_getElem? (i := 206) (by decide +kernel))) (by decide +kernel)
theorem mw978 : Cond.laysFinal RX10 "KinProverModel" "born" "[I" ∈ GW := mwq (tb5 _ (List.mem_of_getElem? (i := 208) (by decide +kernel))) (by decide +kernel)
theorem mw979 : Cond.laysFinal RX10 "KinProverModel" "age" "[I" ∈ GW := mwq (tb5 _ (List.mem_of_getElem? (i := 210) (by decide +kernel))) (by decide +kernel)
theorem mw980 : Cond.lays RX10 "KinProverModel" "ancestor" "I" ∈ GW := mwq (tb5 _ (List.mem_of_getElem? (i := 212) (by decide +kernel))) (by decide +kernel)
theorem mw981 : Cond.lays RX10 "KinProverModel" "paths" "I" ∈ GW := mwq (tb5 _ (List.mem_of_getElem? (i := 214) (by decide +kernel))) (by decide +kernel)
theorem mw982 : Cond.laysFinal RX10 "KinProverModel" "items" "[I" ∈ GW := mwq (tb5 _ (List.mem_of_getElem? (i := 216) (by decide +kernel))) (by decide +kernel)
theorem mw983 : Cond.laysFinal RX10 "KinProverModel" "cell" "[I" ∈ GW := mwq (tb5 _ (List.mem_of_getElem? (i := 218) (by decide +kernel))) (by decide +kernel)
theorem mw984 : Cond.methodLink RL 17 yX10_feed ∈ GW := mwq (tb5 _ (List.mem_of_getElem? (i := 221) (by decide +kernel))) (by decide +kernel)
theorem mw985 : Cond.instanceMethod yX10_feed ∈ GW := mwq (tb5 _ (List.mem_of_getElem? (i := 222) (by decide +kernel))) (by decide +kernel)
theorem mw986 : Cond.selects RX10 yX10_feed yX10_feed ∈ GW := mwq (tb5 _ (List.mem_of_getElem? (i := 223) (by decide +kernel))) (by decide +kernel)
theorem mw987 : Cond.code yX10_feed cX10_feed 2 (some .int) ∈ GW := mwq (tb5 _ (List.mem_of_getElem? (i := 224) (by decide +kernel))) (by decide +kernel)
theorem mw988 : Cond.methodLink RX10 72 yX10_isIn ∈ GW := mwq (tb5 _ (List.mem_of_getElem? (i := 225) (by decide +kernel))) (by decide +kernel)
theorem mw989 : Cond.static yX10_isIn ∈ GW := mwq (tb5 _ (List.mem_of_getElem? (i := 226) (by decide +kernel))) (by decide +kernel)
theorem mw990 : Cond.code yX10_isIn cX10_isIn 3 (some .boolean) ∈ GW := mwq (tb5 _ (List.mem_of_getElem? (i := 227) (by decide +kernel))) (by decide +kernel)
theorem mw991 : Cond.methodLink RL 22 yX10_clear ∈ GW := mwq (tb5 _ (List.mem_of_getElem? (i := 228) (by decide +kernel))) (by decide +kernel)
theorem mw992 : Cond.instanceMethod yX10_clear ∈ GW := mwq (tb5 _ (List.mem_of_getElem? (i := 229) (by decide +kernel))) (by decide +kernel)
theorem mw993 : Cond.selects RX10 yX10_clear yX10_clear ∈ GW := mwq (tb5 _ (List.mem_of_getElem? (i := 230) (by decide +kernel))) (by decide +kernel)
theorem mw994 : Cond.code yX10_clear cX10_clear 2 (some .int) ∈ GW := mwq (tb5 _ (List.mem_of_getElem? (i := 231) (by decide +kernel))) (by decide +kernel)
theorem mw995 : Cond.methodLink RL 26 yX10_paper ∈ GW := mwq (tb5 _ (List.mem_of_getElem? (i := 232) (by decide +kernel))) (by decide +kernel)
theorem mw996 : Cond.instanceMethod yX10_paper ∈ GW := mwq (tb5 _ (List.mem_of_getElem? (i := 233) (by decide +kernel))) (by decide +kernel)
theorem mw997 : Cond.selects RX10 yX10_paper yX10_paper ∈ GW := mwq (tb5 _ (List.mem_of_getElem? (i := 234) (by decide +kernel))) (by decide +kernel)
theorem mw998 : Cond.code yX10_paper cX10_paper 2 (some .int) ∈ GW := mwq (tb5 _ (List.mem_of_getElem? (i := 235) (by decide +kernel))) (by decide +kernel)
theorem mw999 : Cond.methodLink RL 30 yX10_person ∈ GW := mwq (tb5 _ (List.mem_of_getElem? (i := 236) (by decide +kernel))) (by decide +kernel)
theorem mw1000 : Cond.instanceMethod yX10_person ∈ GW := mwq (tb5 _ (List.mem_of_getElem? (i := 237) (by decide +kernel))) (by decide +kernel)
theorem mw1001 : Cond.selects RX10 yX10_person yX10_person ∈ GW := mwq (tb5 _ (List.mem_of_getElem? (i := 238) (by decide +kernel))) (by decide +kernel)
theorem mw1002 : Cond.code yX10_person cX10_person 6 (some .int) ∈ GW := mwq (tb5 _ (List.mem_of_getElem? (i := 239) (by decide +kernel))) (by decide +kernel)
theorem mw1003 : Cond.methodLink RX10 166 yX10_lettersOnTape ∈ GW := mwq (tb6 _ (List.mem_of_getElem? (i := 0) (by decide +kernel))) (by decide +kernel)
theorem mw1004 : Cond.instanceMethod yX10_lettersOnTape ∈ GW := mwq (tb6 _ (List.mem_of_getElem? (i := 2) (by decide +kernel))) (by decide +kernel)
theorem mw1005 : Cond.code yX10_lettersOnTape cX10_lettersOnTape 2 (some .int) ∈ GW := mwq (tb6 _ (List.mem_of_getElem? (i := 3) (by decide +kernel))) (by decide +kernel)
theorem mw1006 : Cond.methodLink RL 35 yX10_sex ∈ GW := mwq (tb6 _ (List.mem_of_getElem? (i := 4) (by decide +kernel))) (by decide +kernel)
theorem mw1007 : Cond.instanceMethod yX10_sex ∈ GW := mwq (tb6 _ (List.mem_of_getElem? (i := 5) (by decide +kernel))) (by decide +kernel)
theorem mw1008 : Cond.selects RX10 yX10_sex yX10_sex ∈ GW := mwq (tb6 _ (List.mem_of_getElem? (i := 6) (by decide +kernel))) (by decide +kernel)
theorem mw1009 : Cond.code yX10_sex cX10_sex 4 (some .int) ∈ GW := mwq (tb6 _ (List.mem_of_getElem? (i := 7) (by decide +kernel))) (by decide +kernel)
theorem mw1010 : Cond.methodLink RX10 170 yX10_isPerson ∈ GW := mwq (tb6 _ (List.mem_of_getElem? (i := 8) (by decide +kernel))) (by decide +kernel)
theorem mw1011 : Cond.instanceMethod yX10_isPerson ∈ GW := mwq (tb6 _ (List.mem_of_getElem? (i := 10) (by decide +kernel))) (by decide +kernel)
theorem mw1012 : Cond.code yX10_isPerson cX10_isPerson 2 (some .boolean) ∈ GW := mwq (tb6 _ (List.mem_of_getElem? (i := 11) (by decide +kernel))) (by decide +kernel)
theorem mw1013 : Cond.methodLink RL 39 yX10_state ∈ GW := mwq (tb6 _ (List.mem_of_getElem? (i := 12) (by decide +kernel))) (by decide +kernel)
theorem mw1014 : Cond.instanceMethod yX10_state ∈ GW := mwq (tb6 _ (List.mem_of_getElem? (i := 13) (by decide +kernel))) (by decide +kernel)
theorem mw1015 : Cond.selects RX10 yX10_state yX10_state ∈ GW := mwq (tb6 _ (List.mem_of_getElem? (i := 14) (by decide +kernel))) (by decide +kernel)
theorem mw1016 : Cond.code yX10_state cX10_state 2 (some .int) ∈ GW := mwq (tb6 _ (List.mem_of_getElem? (i := 15) (by decide +kernel))) (by decide +kernel)
theorem mw1017 : Cond.methodLink RX10 195 yX10_reads ∈ GW := mwq (tb6 _ (List.mem_of_getElem? (i := 16) (by decide +kernel))) (by decide +kernel)
theorem mw1018 : Cond.instanceMethod yX10_reads ∈ GW := mwq (tb6 _ (List.mem_of_getElem? (i := 18) (by decide +kernel))) (by decide +kernel)
theorem mw1019 : Cond.code yX10_reads cX10_reads 2 (some .boolean) ∈ GW := mwq (tb6 _ (List.mem_of_getElem? (i := 19) (by decide +kernel))) (by decide +kernel)
theorem mw1020 : Cond.methodLink RX10 182 yX10_sortOf ∈ GW := mwq (tb6 _ (List.mem_of_getElem? (i := 20) (by decide +kernel))) (by decide +kernel)
theorem mw1021 : Cond.static yX10_sortOf ∈ GW := mwq (tb6 _ (List.mem_of_getElem? (i := 21) (by decide +kernel))) (by decide +kernel)
theorem mw1022 : Cond.code yX10_sortOf cX10_sortOf 1 (some .int) ∈ GW := mwq (tb6 _ (List.mem_of_getElem? (i := 22) (by decide +kernel))) (by decide +kernel)
theorem mw1023 : Cond.methodLink RX10 179 yX10_fails ∈ GW := mwq (tb6 _ (List.mem_of_getElem? (i := 23) (by decide +kernel))) (by decide +kernel)
theorem mw1024 : Cond.instanceMethod yX10_fails ∈ GW := mwq (tb6 _ (List.mem_of_getElem? (i := 25) (by decide +kernel))) (by decide +kernel)
theorem mw1025 : Cond.code yX10_fails cX10_fails 2 none ∈ GW := mwq (tb6 _ (List.mem_of_getElem? (i := 26) (by decide +kernel))) (by decide +kernel)
theorem mw1026 : Cond.methodLink RX10 185 yX10_number ∈ GW := mwq (tb6 _ (List.mem_of_getElem? (i := 27) (by decide +kernel))) (by decide +kernel)
theorem mw1027 : Cond.instanceMethod yX10_number ∈ GW := mwq (tb6 _ (List.mem_of_getElem? (i := 29) (by decide +kernel))) (by decide +kernel)
theorem mw1028 : Cond.code yX10_number cX10_number 6 (some .int) ∈ GW := mwq (tb6 _ (List.mem_of_getElem? (i := 30) (by decide +kernel))) (by decide +kernel)
theorem mw1029 : Cond.methodLink RX10 189 yX10_isOfTwo ∈ GW := mwq (tb6 _ (List.mem_of_getElem? (i := 31) (by decide +kernel))) (by decide +kernel)
theorem mw1030 : Cond.static yX10_isOfTwo ∈ GW := mwq (tb6 _ (List.mem_of_getElem? (i := 32) (by decide +kernel))) (by decide +kernel)
theorem mw1031 : Cond.code yX10_isOfTwo cX10_isOfTwo 1 (some .boolean) ∈ GW := mwq (tb6 _ (List.mem_of_getElem? (i := 33) (by decide +kernel))) (by decide +kernel)
theorem mw1032 : Cond.methodLink RX10 192 yX10_isOfYears ∈ GW := mwq (tb6 _ (List.mem_of_getElem? (i := 34) (by decide +kernel))) (by decide +kernel)
theorem mw1033 : Cond.static yX10_isOfYears ∈ GW := mwq (tb6 _ (List.mem_of_getElem? (i := 35) (by decide +kernel))) (by decide +kernel)
theorem mw1034 : Cond.code yX10_isOfYears cX10_isOfYears 1 (some .boolean) ∈ GW := mwq (tb6 _ (List.mem_of_getElem? (i := 36) (by decide +kernel))) (by decide +kernel)
theorem mw1035 : Cond.methodLink RX10 199 yX10_comes ∈ GW := mwq (tb6 _ (List.mem_of_getElem? (i := 37) (by decide +kernel))) (by decide +kernel)
theorem mw1036 : Cond.instanceMethod yX10_comes ∈ GW := mwq (tb6 _ (List.mem_of_getElem? (i := 39) (by decide +kernel))) (by decide +kernel)
theorem mw1037 : Cond.code yX10_comes cX10_comes 3 none ∈ GW := mwq (tb6 _ (List.mem_of_getElem? (i := 40) (by decide +kernel))) (by decide +kernel)
theorem mw1038 : Cond.methodLink RL 43 yX10_live ∈ GW := mwq (tb6 _ (List.mem_of_getElem? (i := 41) (by decide +kernel))) (by decide +kernel)
theorem mw1039 : Cond.instanceMethod yX10_live ∈ GW := mwq (tb6 _ (List.mem_of_getElem? (i := 42) (by decide +kernel))) (by decide +kernel)
theorem mw1040 : Cond.selects RX10 yX10_live yX10_live ∈ GW := mwq (tb6 _ (List.mem_of_getElem? (i := 43) (by decide +kernel))) (by decide +kernel)
theorem mw1041 : Cond.code yX10_live cX10_live 4 (some .int) ∈ GW := mwq (tb6 _ (List.mem_of_getElem? (i := 44) (by decide +kernel))) (by decide +kernel)
theorem mw1042 : Cond.methodLink RX10 202 yX10_isStatement ∈ GW := mwq (tb6 _ (List.mem_of_getElem? (i := 45) (by decide +kernel))) (by decide +kernel)
theorem mw1043 : Cond.instanceMethod yX10_isStatement ∈ GW := mwq (tb6 _ (List.mem_of_getElem? (i := 47) (by decide +kernel))) (by decide +kernel)
theorem mw1044 : Cond.code yX10_isStatement cX10_isStatement 2 (some .boolean) ∈ GW := mwq (tb6 _ (List.mem_of_getElem? (i := 48) (by decide +kernel))) (by decide +kernel)
theorem mw1045 : Cond.methodLink RL 47 yX10_of ∈ GW := mwq (tb6 _ (List.mem_of_getElem? (i := 49) (by decide +kernel))) (by decide +kernel)
theorem mw1046 : Cond.instanceMethod yX10_of ∈ GW := mwq (tb6 _ (List.mem_of_getElem? (i := 50) (by decide +kernel))) (by decide +kernel)
theorem mw1047 : Cond.selects RX10 yX10_of yX10_of ∈ GW := mwq (tb6 _ (List.mem_of_getElem? (i := 51) (by decide +kernel))) (by decide +kernel)
theorem mw1048 : Cond.code yX10_of cX10_of 3 (some .int) ∈ GW := mwq (tb6 _ (List.mem_of_getElem? (i := 52) (by decide +kernel))) (by decide +kernel)
theorem mw1049 : Cond.methodLink RL 51 yX10_spell ∈ GW := mwq (tb6 _ (List.mem_of_getElem? (i := 53) (by decide +kernel))) (by decide +kernel)
theorem mw1050 : Cond.instanceMethod yX10_spell ∈ GW := mwq (tb6 _ (List.mem_of_getElem? (i := 54) (by decide +kernel))) (by decide +kernel)
theorem mw1051 : Cond.selects RX10 yX10_spell yX10_spell ∈ GW := mwq (tb6 _ (List.mem_of_getElem? (i := 55) (by decide +kernel))) (by decide +kernel)
theorem mw1052 : Cond.code yX10_spell cX10_spell 3 (some .int) ∈ GW := mwq (tb6 _ (List.mem_of_getElem? (i := 56) (by decide +kernel))) (by decide +kernel)
theorem mw1053 : Cond.methodLink RX10 213 yJ0_charAt_5068e ∈ GW := mwq (tb6 _ (List.mem_of_getElem? (i := 58) (by decide +kernel))) (by decide +kernel)
theorem mw1054 : Cond.methodLink RX10 208 yX10_writes ∈ GW := mwq (tb6 _ (List.mem_of_getElem? (i := 59) (by decide +kernel))) (by decide +kernel)
theorem mw1055 : Cond.instanceMethod yX10_writes ∈ GW := mwq (tb6 _ (List.mem_of_getElem? (i := 61) (by decide +kernel))) (by decide +kernel)
theorem mw1056 : Cond.code yX10_writes cX10_writes 2 none ∈ GW := mwq (tb6 _ (List.mem_of_getElem? (i := 62) (by decide +kernel))) (by decide +kernel)
theorem mw1057 : Cond.methodLink RX10 205 yX10_writesNumber ∈ GW := mwq (tb6 _ (List.mem_of_getElem? (i := 63) (by decide +kernel))) (by decide +kernel)
theorem mw1058 : Cond.instanceMethod yX10_writesNumber ∈ GW := mwq (tb6 _ (List.mem_of_getElem? (i := 65) (by decide +kernel))) (by decide +kernel)
theorem mw1059 : Cond.code yX10_writesNumber cX10_writesNumber 2 none ∈ GW := mwq (tb6 _ (List.mem_of_getElem? (i := 66) (by decide +kernel))) (by decide +kernel)
theorem mw1060 : Cond.methodLink RL 55 yX10_name ∈ GW := mwq (tb6 _ (List.mem_of_getElem? (i := 67) (by decide +kernel))) (by decide +kernel)
theorem mw1061 : Cond.instanceMethod yX10_name ∈ GW := mwq (tb6 _ (List.mem_of_getElem? (i := 68) (by decide +kernel))) (by decide +kernel)
theorem mw1062 : Cond.selects RX10 yX10_name yX10_name ∈ GW := mwq (tb6 _ (List.mem_of_getElem? (i := 69) (by decide +kernel))) (by decide +kernel)
theorem mw1063 : Cond.code yX10_name cX10_name 3 (some .int) ∈ GW := mwq (tb6 _ (List.mem_of_getElem? (i := 70) (by decide +kernel))) (by decide +kernel)
theorem mw1064 : Cond.methodLink RX10 222 yX10_lengthOf ∈ GW := mwq (tb6 _ (List.mem_of_getElem? (i := 71) (by decide +kernel))) (by decide +kernel)
theorem mw1065 : Cond.instanceMethod yX10_lengthOf ∈ GW := mwq (tb6 _ (List.mem_of_getElem? (i := 73) (by decide +kernel))) (by decide +kernel)
theorem mw1066 : Cond.code yX10_lengthOf cX10_lengthOf 3 (some .int) ∈ GW := mwq (tb6 _ (List.mem_of_getElem? (i := 74) (by decide +kernel))) (by decide +kernel)
theorem mw1067 : Cond.methodLink RX10 219 yX10_letterOf ∈ GW := mwq (tb6 _ (List.mem_of_getElem? (i := 75) (by decide +kernel))) (by decide +kernel)
theorem mw1068 : Cond.instanceMethod yX10_letterOf ∈ GW := mwq (tb6 _ (List.mem_of_getElem? (i := 77) (by decide +kernel))) (by decide +kernel)
theorem mw1069 : Cond.code yX10_letterOf cX10_letterOf 3 (some .int) ∈ GW := mwq (tb6 _ (List.mem_of_getElem? (i := 78) (by decide +kernel))) (by decide +kernel)
theorem mw1070 : Cond.methodLink RL 59 yX10_find ∈ GW := mwq (tb6 _ (List.mem_of_getElem? (i := 79) (by decide +kernel))) (by decide +kernel)
theorem mw1071 : Cond.instanceMethod yX10_find ∈ GW := mwq (tb6 _ (List.mem_of_getElem? (i := 80) (by decide +kernel))) (by decide +kernel)
theorem mw1072 : Cond.selects RX10 yX10_find yX10_find ∈ GW := mwq (tb6 _ (List.mem_of_getElem? (i := 81) (by decide +kernel))) (by decide +kernel)
theorem mw1073 : Cond.code yX10_find cX10_find 7 (some .int) ∈ GW := mwq (tb6 _ (List.mem_of_getElem? (i := 82) (by decide +kernel))) (by decide +kernel)
theorem mw1074 : Cond.methodLink RL 63 yX10_byName ∈ GW := mwq (tb6 _ (List.mem_of_getElem? (i := 83) (by decide +kernel))) (by decide +kernel)
theorem mw1075 : Cond.instanceMethod yX10_byName ∈ GW := mwq (tb6 _ (List.mem_of_getElem? (i := 84) (by decide +kernel))) (by decide +kernel)
theorem mw1076 : Cond.selects RX10 yX10_byName yX10_byName ∈ GW := mwq (tb6 _ (List.mem_of_getElem? (i := 85) (by decide +kernel))) (by decide +kernel)
theorem mw1077 : Cond.code yX10_byName cX10_byName 5 (some .int) ∈ GW := mwq (tb6 _ (List.mem_of_getElem? (i := 86) (by decide +kernel))) (by decide +kernel)
theorem mw1078 : Cond.methodLink RX10 225 yX10_compares ∈ GW := mwq (tb6 _ (List.mem_of_getElem? (i := 87) (by decide +kernel))) (by decide +kernel)
theorem mw1079 : Cond.instanceMethod yX10_compares ∈ GW := mwq (tb6 _ (List.mem_of_getElem? (i := 89) (by decide +kernel))) (by decide +kernel)
theorem mw1080 : Cond.code yX10_compares cX10_compares 4 (some .int) ∈ GW := mwq (tb6 _ (List.mem_of_getElem? (i := 90) (by decide +kernel))) (by decide +kernel)
theorem mw1081 : Cond.methodLink RL 67 yX10_people ∈ GW := mwq (tb6 _ (List.mem_of_getElem? (i := 91) (by decide +kernel))) (by decide +kernel)
theorem mw1082 : Cond.instanceMethod yX10_people ∈ GW := mwq (tb6 _ (List.mem_of_getElem? (i := 92) (by decide +kernel))) (by decide +kernel)
theorem mw1083 : Cond.selects RX10 yX10_people yX10_people ∈ GW := mwq (tb6 _ (List.mem_of_getElem? (i := 93) (by decide +kernel))) (by decide +kernel)
theorem mw1084 : Cond.code yX10_people cX10_people 6 (some .int) ∈ GW := mwq (tb6 _ (List.mem_of_getElem? (i := 94) (by decide +kernel))) (by decide +kernel)
theorem mw1085 : Cond.methodLink RX10 231 yX10_least ∈ GW := mwq (tb6 _ (List.mem_of_getElem? (i := 95) (by decide +kernel))) (by decide +kernel)
theorem mw1086 : Cond.static yX10_least ∈ GW := mwq (tb6 _ (List.mem_of_getElem? (i := 96) (by decide +kernel))) (by decide +kernel)
theorem mw1087 : Cond.code yX10_least cX10_least 2 (some .int) ∈ GW := mwq (tb6 _ (List.mem_of_getElem? (i := 97) (by decide +kernel))) (by decide +kernel)
theorem mw1088 : Cond.methodLink RX10 234 yX10_childrenOf ∈ GW := mwq (tb6 _ (List.mem_of_getElem? (i := 98) (by decide +kernel))) (by decide +kernel)
theorem mw1089 : Cond.instanceMethod yX10_childrenOf ∈ GW := mwq (tb6 _ (List.mem_of_getElem? (i := 100) (by decide +kernel))) (by decide +kernel)
theorem mw1090 : Cond.code yX10_childrenOf cX10_childrenOf 4 (some .int) ∈ GW := mwq (tb6 _ (List.mem_of_getElem? (i := 101) (by decide +kernel))) (by decide +kernel)
theorem mw1091 : Cond.methodLink RX10 237 yX10_marriages ∈ GW := mwq (tb6 _ (List.mem_of_getElem? (i := 102) (by decide +kernel))) (by decide +kernel)
theorem mw1092 : Cond.instanceMethod yX10_marriages ∈ GW := mwq (tb6 _ (List.mem_of_getElem? (i := 104) (by decide +kernel))) (by decide +kernel)
theorem mw1093 : Cond.code yX10_marriages cX10_marriages 4 (some .int) ∈ GW := mwq (tb6 _ (List.mem_of_getElem? (i := 105) (by decide +kernel))) (by decide +kernel)
theorem mw1094 : Cond.methodLink RX10 240 yX10_ages ∈ GW := mwq (tb6 _ (List.mem_of_getElem? (i := 106) (by decide +kernel))) (by decide +kernel)
theorem mw1095 : Cond.instanceMethod yX10_ages ∈ GW := mwq (tb6 _ (List.mem_of_getElem? (i := 108) (by decide +kernel))) (by decide +kernel)
theorem mw1096 : Cond.code yX10_ages cX10_ages 4 (some .boolean) ∈ GW := mwq (tb6 _ (List.mem_of_getElem? (i := 109) (by decide +kernel))) (by decide +kernel)
theorem mw1097 : Cond.methodLink RX10 228 Lib.Math.max.name ∈ GW := mwq (tb6 _ (List.mem_of_getElem? (i := 110) (by decide +kernel))) (by decide +kernel)
theorem mw1098 : Cond.methodLink RL 72 yX10_end ∈ GW := mwq (tb6 _ (List.mem_of_getElem? (i := 111) (by decide +kernel))) (by decide +kernel)
theorem mw1099 : Cond.instanceMethod yX10_end ∈ GW := mwq (tb6 _ (List.mem_of_getElem? (i := 112) (by decide +kernel))) (by decide +kernel)
theorem mw1100 : Cond.selects RX10 yX10_end yX10_end ∈ GW := mwq (tb6 _ (List.mem_of_getElem? (i := 113) (by decide +kernel))) (by decide +kernel)
theorem mw1101 : Cond.code yX10_end cX10_end 4 (some .int) ∈ GW := mwq (tb6 _ (List.mem_of_getElem? (i := 114) (by decide +kernel))) (by decide +kernel)
theorem mw1102 : Cond.methodLink RX10 243 yX10_isEnd ∈ GW := mwq (tb6 _ (List.mem_of_getElem? (i := 115) (by decide +kernel))) (by decide +kernel)
theorem mw1103 : Cond.instanceMethod yX10_isEnd ∈ GW := mwq (tb6 _ (List.mem_of_getElem? (i := 117) (by decide +kernel))) (by decide +kernel)
theorem mw1104 : Cond.code yX10_isEnd cX10_isEnd 4 (some .boolean) ∈ GW := mwq (tb6 _ (List.mem_of_getElem? (i := 118) (by decide +kernel))) (by decide +kernel)
theorem mw1105 : Cond.methodLink RX10 246 yX10_endOf ∈ GW := mwq (tb6 _ (List.mem_of_getElem? (i := 119) (by decide +kernel))) (by decide +kernel)
theorem mw1106 : Cond.instanceMethod yX10_endOf ∈ GW := mwq (tb6 _ (List.mem_of_getElem? (i := 121) (by decide +kernel))) (by decide +kernel)
theorem mw1107 : Cond.code yX10_endOf cX10_endOf 4 (some .int) ∈ GW := mwq (tb6 _ (List.mem_of_getElem? (i := 122) (by decide +kernel))) (by decide +kernel)
theorem mw1108 : Cond.methodLink RL 76 yX10_year ∈ GW := mwq (tb6 _ (List.mem_of_getElem? (i := 123) (by decide +kernel))) (by decide +kernel)
theorem mw1109 : Cond.instanceMethod yX10_year ∈ GW := mwq (tb6 _ (List.mem_of_getElem? (i := 124) (by decide +kernel))) (by decide +kernel)
theorem mw1110 : Cond.selects RX10 yX10_year yX10_year ∈ GW := mwq (tb6 _ (List.mem_of_getElem? (i := 125) (by decide +kernel))) (by decide +kernel)
theorem mw1111 : Cond.code yX10_year cX10_year 3 (some .int) ∈ GW := mwq (tb6 _ (List.mem_of_getElem? (i := 126) (by decide +kernel))) (by decide +kernel)
theorem mw1112 : Cond.methodLink RL 81 yX10_proof ∈ GW := mwq (tb6 _ (List.mem_of_getElem? (i := 127) (by decide +kernel))) (by decide +kernel)
theorem mw1113 : Cond.instanceMethod yX10_proof ∈ GW := mwq (tb6 _ (List.mem_of_getElem? (i := 128) (by decide +kernel))) (by decide +kernel)
theorem mw1114 : Cond.selects RX10 yX10_proof yX10_proof ∈ GW := mwq (tb6 _ (List.mem_of_getElem? (i := 129) (by decide +kernel))) (by decide +kernel)
theorem mw1115 : Cond.code yX10_proof cX10_proof 6 (some .int) ∈ GW := mwq (tb6 _ (List.mem_of_getElem? (i := 130) (by decide +kernel))) (by decide +kernel)
theorem mw1116 : Cond.methodLink RX10 252 yX10_isLink ∈ GW := mwq (tb6 _ (List.mem_of_getElem? (i := 131) (by decide +kernel))) (by decide +kernel)
theorem mw1117 : Cond.static yX10_isLink ∈ GW := mwq (tb6 _ (List.mem_of_getElem? (i := 132) (by decide +kernel))) (by decide +kernel)
theorem mw1118 : Cond.code yX10_isLink cX10_isLink 2 (some .boolean) ∈ GW := mwq (tb6 _ (List.mem_of_getElem? (i := 133) (by decide +kernel))) (by decide +kernel)
theorem mw1119 : Cond.methodLink RX10 255 yX10_rests ∈ GW := mwq (tb6 _ (List.mem_of_getElem? (i := 134) (by decide +kernel))) (by decide +kernel)
theorem mw1120 : Cond.instanceMethod yX10_rests ∈ GW := mwq (tb6 _ (List.mem_of_getElem? (i := 136) (by decide +kernel))) (by decide +kernel)
theorem mw1121 : Cond.code yX10_rests cX10_rests 6 (some .int) ∈ GW := mwq (tb6 _ (List.mem_of_getElem? (i := 137) (by decide +kernel))) (by decide +kernel)
theorem mw1122 : Cond.methodLink RX10 249 yX10_toldRange ∈ GW := mwq (tb6 _ (List.mem_of_getElem? (i := 138) (by decide +kernel))) (by decide +kernel)
theorem mw1123 : Cond.static yX10_toldRange ∈ GW := mwq (tb6 _ (List.mem_of_getElem? (i := 139) (by decide +kernel))) (by decide +kernel)
theorem mw1124 : Cond.code yX10_toldRange cX10_toldRange 1 (some .int) ∈ GW := mwq (tb6 _ (List.mem_of_getElem? (i := 140) (by decide +kernel))) (by decide +kernel)
theorem mw1125 : Cond.methodLink RL 85 yX10_prove ∈ GW := mwq (tb6 _ (List.mem_of_getElem? (i := 141) (by decide +kernel))) (by decide +kernel)
theorem mw1126 : Cond.instanceMethod yX10_prove ∈ GW := mwq (tb6 _ (List.mem_of_getElem? (i := 142) (by decide +kernel))) (by decide +kernel)
theorem mw1127 : Cond.selects RX10 yX10_prove yX10_prove ∈ GW := mwq (tb6 _ (List.mem_of_getElem? (i := 143) (by decide +kernel))) (by decide +kernel)
theorem mw1128 : Cond.code yX10_prove cX10_prove 6 (some .int) ∈ GW := mwq (tb6 _ (List.mem_of_getElem? (i := 144) (by decide +kernel))) (by decide +kernel)
theorem mw1129 : Cond.methodLink RL 89 yX10_clash ∈ GW := mwq (tb6 _ (List.mem_of_getElem? (i := 145) (by decide +kernel))) (by decide +kernel)
theorem mw1130 : Cond.instanceMethod yX10_clash ∈ GW := mwq (tb6 _ (List.mem_of_getElem? (i := 146) (by decide +kernel))) (by decide +kernel)
theorem mw1131 : Cond.selects RX10 yX10_clash yX10_clash ∈ GW := mwq (tb6 _ (List.mem_of_getElem? (i := 147) (by decide +kernel))) (by decide +kernel)
theorem mw1132 : Cond.code yX10_clash cX10_clash 2 (some .int) ∈ GW := mwq (tb6 _ (List.mem_of_getElem? (i := 148) (by decide +kernel))) (by decide +kernel)
theorem mw1133 : Cond.methodLink RL 93 yX10_why ∈ GW := mwq (tb6 _ (List.mem_of_getElem? (i := 149) (by decide +kernel))) (by decide +kernel)
theorem mw1134 : Cond.instanceMethod yX10_why ∈ GW := mwq (tb6 _ (List.mem_of_getElem? (i := 150) (by decide +kernel))) (by decide +kernel)
theorem mw1135 : Cond.selects RX10 yX10_why yX10_why ∈ GW := mwq (tb6 _ (List.mem_of_getElem? (i := 151) (by decide +kernel))) (by decide +kernel)
theorem mw1136 : Cond.code yX10_why cX10_why 4 (some .int) ∈ GW := mwq (tb6 _ (List.mem_of_getElem? (i := 152) (by decide +kernel))) (by decide +kernel)
theorem mw1137 : Cond.methodLink RL 97 yX10_culprit ∈ GW := mwq (tb6 _ (List.mem_of_getElem? (i := 153) (by decide +kernel))) (by decide +kernel)
theorem mw1138 : Cond.instanceMethod yX10_culprit ∈ GW := mwq (tb6 _ (List.mem_of_getElem? (i := 154) (by decide +kernel))) (by decide +kernel)
theorem mw1139 : Cond.selects RX10 yX10_culprit yX10_culprit ∈ GW := mwq (tb6 _ (List.mem_of_getElem? (i := 155) (by decide +kernel))) (by decide +kernel)
theorem mw1140 : Cond.code yX10_culprit cX10_culprit 5 (some .int) ∈ GW := mwq (tb6 _ (List.mem_of_getElem? (i := 156) (by decide +kernel))) (by decide +kernel)
theorem mw1141 : Cond.methodLink RL 101 yX10_same ∈ GW := mwq (tb6 _ (List.mem_of_getElem? (i := 157) (by decide +kernel))) (by decide +kernel)
theorem mw1142 : Cond.instanceMethod yX10_same ∈ GW := mwq (tb6 _ (List.mem_of_getElem? (i := 158) (by decide +kernel))) (by decide +kernel)
theorem mw1143 : Cond.selects RX10 yX10_same yX10_same ∈ GW := mwq (tb6 _ (List.mem_of_getElem? (i := 159) (by decide +kernel))) (by decide +kernel)
theorem mw1144 : Cond.code yX10_same cX10_same 4 (some .int) ∈ GW := mwq (tb6 _ (List.mem_of_getElem? (i := 160) (by decide +kernel))) (by decide +kernel)
theorem mw1145 : Cond.methodLink RL 105 yX10_narrows_ ∈ GW := mwq (tb6 _ (List.mem_of_getElem? (i := 161) (by decide +kernel))) (by decide +kernel)
theorem mw1146 : Cond.instanceMethod yX10_narrows_ ∈ GW := mwq (tb6 _ (List.mem_of_getElem? (i := 162) (by decide +kernel))) (by decide +kernel)
theorem mw1147 : Cond.selects RX10 yX10_narrows_ yX10_narrows_ ∈ GW := mwq (tb6 _ (List.mem_of_getElem? (i := 163) (by decide +kernel))) (by decide +kernel)
theorem mw1148 : Cond.code yX10_narrows_ cX10_narrows_ 5 (some .int) ∈ GW := mwq (tb6 _ (List.mem_of_getElem? (i := 164) (by decide +kernel))) (by decide +kernel)
theorem mw1149 : Cond.methodLink RX10 258 yX10_widthOf ∈ GW := mwq (tb6 _ (List.mem_of_getElem? (i := 165) (by decide +kernel))) (by decide +kernel)
theorem mw1150 : Cond.instanceMethod yX10_widthOf ∈ GW := mwq (tb6 _ (List.mem_of_getElem? (i := 167) (by decide +kernel))) (by decide +kernel)
theorem mw1151 : Cond.code yX10_widthOf cX10_widthOf 4 (some .int) ∈ GW := mwq (tb6 _ (List.mem_of_getElem? (i := 168) (by decide +kernel))) (by decide +kernel)
theorem mw1152 : Cond.methodLink RL 109 yX10_rounds ∈ GW := mwq (tb6 _ (List.mem_of_getElem? (i := 169) (by decide +kernel))) (by decide +kernel)
theorem mw1153 : Cond.instanceMethod yX10_rounds ∈ GW := mwq (tb6 _ (List.mem_of_getElem? (i := 170) (by decide +kernel))) (by decide +kernel)
theorem mw1154 : Cond.selects RX10 yX10_rounds yX10_rounds ∈ GW := mwq (tb6 _ (List.mem_of_getElem? (i := 171) (by decide +kernel))) (by decide +kernel)
theorem mw1155 : Cond.code yX10_rounds cX10_rounds 1 (some .int) ∈ GW := mwq (tb6 _ (List.mem_of_getElem? (i := 172) (by decide +kernel))) (by decide +kernel)
theorem mw1156 : Cond.methodLink RL 113 yX10_kin ∈ GW := mwq (tb6 _ (List.mem_of_getElem? (i := 173) (by decide +kernel))) (by decide +kernel)
theorem mw1157 : Cond.instanceMethod yX10_kin ∈ GW := mwq (tb6 _ (List.mem_of_getElem? (i := 174) (by decide +kernel))) (by decide +kernel)
theorem mw1158 : Cond.selects RX10 yX10_kin yX10_kin ∈ GW := mwq (tb6 _ (List.mem_of_getElem? (i := 175) (by decide +kernel))) (by decide +kernel)
theorem mw1159 : Cond.code yX10_kin cX10_kin 3 (some .int) ∈ GW := mwq (tb6 _ (List.mem_of_getElem? (i := 176) (by decide +kernel))) (by decide +kernel)
theorem mw1160 : Cond.methodLink RX10 268 yX10_areTwo ∈ GW := mwq (tb6 _ (List.mem_of_getElem? (i := 177) (by decide +kernel))) (by decide +kernel)
theorem mw1161 : Cond.instanceMethod yX10_areTwo ∈ GW := mwq (tb6 _ (List.mem_of_getElem? (i := 179) (by decide +kernel))) (by decide +kernel)
theorem mw1162 : Cond.code yX10_areTwo cX10_areTwo 3 (some .boolean) ∈ GW := mwq (tb6 _ (List.mem_of_getElem? (i := 180) (by decide +kernel))) (by decide +kernel)
theorem mw1163 : Cond.methodLink RX10 271 yX10_meets ∈ GW := mwq (tb6 _ (List.mem_of_getElem? (i := 181) (by decide +kernel))) (by decide +kernel)
theorem mw1164 : Cond.instanceMethod yX10_meets ∈ GW := mwq (tb6 _ (List.mem_of_getElem? (i := 183) (by decide +kernel))) (by decide +kernel)
theorem mw1165 : Cond.code yX10_meets cX10_meets 6 (some .boolean) ∈ GW := mwq (tb6 _ (List.mem_of_getElem? (i := 184) (by decide +kernel))) (by decide +kernel)
theorem mw1166 : Cond.methodLink RX10 261 yX10_steps ∈ GW := mwq (tb6 _ (List.mem_of_getElem? (i := 185) (by decide +kernel))) (by decide +kernel)
theorem mw1167 : Cond.instanceMethod yX10_steps ∈ GW := mwq (tb6 _ (List.mem_of_getElem? (i := 187) (by decide +kernel))) (by decide +kernel)
theorem mw1168 : Cond.code yX10_steps cX10_steps 6 none ∈ GW := mwq (tb6 _ (List.mem_of_getElem? (i := 188) (by decide +kernel))) (by decide +kernel)
theorem mw1169 : Cond.methodLink RL 117 yX10_common ∈ GW := mwq (tb6 _ (List.mem_of_getElem? (i := 189) (by decide +kernel))) (by decide +kernel)
theorem mw1170 : Cond.instanceMethod yX10_common ∈ GW := mwq (tb6 _ (List.mem_of_getElem? (i := 190) (by decide +kernel))) (by decide +kernel)
theorem mw1171 : Cond.selects RX10 yX10_common yX10_common ∈ GW := mwq (tb6 _ (List.mem_of_getElem? (i := 191) (by decide +kernel))) (by decide +kernel)
theorem mw1172 : Cond.code yX10_common cX10_common 3 (some .int) ∈ GW := mwq (tb6 _ (List.mem_of_getElem? (i := 192) (by decide +kernel))) (by decide +kernel)
theorem mw1173 : Cond.methodLink RL 121 yX10_half ∈ GW := mwq (tb6 _ (List.mem_of_getElem? (i := 193) (by decide +kernel))) (by decide +kernel)
theorem mw1174 : Cond.instanceMethod yX10_half ∈ GW := mwq (tb6 _ (List.mem_of_getElem? (i := 194) (by decide +kernel))) (by decide +kernel)
theorem mw1175 : Cond.selects RX10 yX10_half yX10_half ∈ GW := mwq (tb6 _ (List.mem_of_getElem? (i := 195) (by decide +kernel))) (by decide +kernel)
theorem mw1176 : Cond.code yX10_half cX10_half 3 (some .int) ∈ GW := mwq (tb6 _ (List.mem_of_getElem? (i := 196) (by decide +kernel))) (by decide +kernel)
theorem mw1177 : Cond.methodLink RX10 278 yX10_isHalf ∈ GW := mwq (tb6 _ (List.mem_of_getElem? (i := 197) (by decide +kernel))) (by decide +kernel)
theorem mw1178 : Cond.instanceMethod yX10_isHalf ∈ GW := mwq (tb6 _ (List.mem_of_getElem? (i := 199) (by decide +kernel))) (by decide +kernel)
theorem mw1179 : Cond.code yX10_isHalf cX10_isHalf 4 (some .boolean) ∈ GW := mwq (tb6 _ (List.mem_of_getElem? (i := 200) (by decide +kernel))) (by decide +kernel)
theorem mw1180 : Cond.methodLink RX10 274 yX10_under ∈ GW := mwq (tb6 _ (List.mem_of_getElem? (i := 201) (by decide +kernel))) (by decide +kernel)
theorem mw1181 : Cond.instanceMethod yX10_under ∈ GW := mwq (tb6 _ (List.mem_of_getElem? (i := 203) (by decide +kernel))) (by decide +kernel)
theorem mw1182 : Cond.code yX10_under cX10_under 4 (some .int) ∈ GW := mwq (tb6 _ (List.mem_of_getElem? (i := 204) (by decide +kernel))) (by decide +kernel)
theorem mw1183 : Cond.methodLink RL 125 yX10_title ∈ GW := mwq (tb6 _ (List.mem_of_getElem? (i := 205) (by decide +kernel))) (by decide +kernel)
theorem mw1184 : Cond.instanceMethod yX10_title ∈ GW := mwq (tb6 _ (List.mem_of_getElem? (i := 206) (by decide +kernel))) (by decide +kernel)
theorem mw1185 : Cond.selects RX10 yX10_title yX10_title ∈ GW := mwq (tb6 _ (List.mem_of_getElem? (i := 207) (by decide +kernel))) (by decide +kernel)
theorem mw1186 : Cond.code yX10_title cX10_title 6 (some .int) ∈ GW := mwq (tb6 _ (List.mem_of_getElem? (i := 208) (by decide +kernel))) (by decide +kernel)
theorem mw1187 : Cond.methodLink RX10 289 yX10_marriedTo ∈ GW := mwq (tb6 _ (List.mem_of_getElem? (i := 209) (by decide +kernel))) (by decide +kernel)
theorem mw1188 : Cond.instanceMethod yX10_marriedTo ∈ GW := mwq (tb6 _ (List.mem_of_getElem? (i := 211) (by decide +kernel))) (by decide +kernel)
theorem mw1189 : Cond.code yX10_marriedTo cX10_marriedTo 6 (some .int) ∈ GW := mwq (tb6 _ (List.mem_of_getElem? (i := 212) (by decide +kernel))) (by decide +kernel)
theorem mw1190 : Cond.methodLink RX10 298 yX10_writesBy ∈ GW := mwq (tb6 _ (List.mem_of_getElem? (i := 216) (by decide +kernel))) (by decide +kernel)
theorem mw1191 : Cond.instanceMethod yX10_writesBy ∈ GW := mwq (tb6 _ (List.mem_of_getElem? (i := 218) (by decide +kernel))) (by decide +kernel)
theorem mw1192 : Cond.code yX10_writesBy cX10_writesBy 5 none ∈ GW := mwq (tb6 _ (List.mem_of_getElem? (i := 219) (by decide +kernel))) (by decide +kernel)
theorem mw1193 : Cond.methodLink RX10 284 yX10_writes_ ∈ GW := mwq (tb6 _ (List.mem_of_getElem? (i := 220) (by decide +kernel))) (by decide +kernel)
theorem mw1194 : Cond.instanceMethod yX10_writes_ ∈ GW := mwq (tb6 _ (List.mem_of_getElem? (i := 222) (by decide +kernel))) (by decide +kernel)
theorem mw1195 : Cond.code yX10_writes_ cX10_writes_ 3 none ∈ GW := mwq (tb6 _ (List.mem_of_getElem? (i := 223) (by decide +kernel))) (by decide +kernel)
theorem mw1196 : Cond.methodLink RX10 281 yJ0_length_8abf5 ∈ GW := mwq (tb6 _ (List.mem_of_getElem? (i := 224) (by decide +kernel))) (by decide +kernel)
theorem mw1197 : Cond.methodLink RX10 308 yX10_grands ∈ GW := mwq (tb6 _ (List.mem_of_getElem? (i := 228) (by decide +kernel))) (by decide +kernel)
theorem mw1198 : Cond.instanceMethod yX10_grands ∈ GW := mwq (tb6 _ (List.mem_of_getElem? (i := 230) (by decide +kernel))) (by decide +kernel)
theorem mw1199 : Cond.code yX10_grands cX10_grands 3 none ∈ GW := mwq (tb6 _ (List.mem_of_getElem? (i := 231) (by decide +kernel))) (by decide +kernel)
theorem mw1200 : Cond.methodLink RX10 341 Lib.Math.abs.name ∈ GW := mwq (tb7 _ (List.mem_of_getElem? (i := 9) (by decide +kernel))) (by decide +kernel)
theorem mw1201 : Cond.methodLink RL 129 yX10_path ∈ GW := mwq (tb7 _ (List.mem_of_getElem? (i := 10) (by decide +kernel))) (by decide +kernel)
theorem mw1202 : Cond.instanceMethod yX10_path ∈ GW := mwq (tb7 _ (List.mem_of_getElem? (i := 11) (by decide +kernel))) (by decide +kernel)
theorem mw1203 : Cond.selects RX10 yX10_path yX10_path ∈ GW := mwq (tb7 _ (List.mem_of_getElem? (i := 12) (by decide +kernel))) (by decide +kernel)
theorem mw1204 : Cond.code yX10_path cX10_path 6 (some .int) ∈ GW := mwq (tb7 _ (List.mem_of_getElem? (i := 13) (by decide +kernel))) (by decide +kernel)
theorem mw1205 : Cond.methodLink RL 134 yX10_relatives ∈ GW := mwq (tb7 _ (List.mem_of_getElem? (i := 14) (by decide +kernel))) (by decide +kernel)
theorem mw1206 : Cond.instanceMethod yX10_relatives ∈ GW := mwq (tb7 _ (List.mem_of_getElem? (i := 15) (by decide +kernel))) (by decide +kernel)
theorem mw1207 : Cond.selects RX10 yX10_relatives yX10_relatives ∈ GW := mwq (tb7 _ (List.mem_of_getElem? (i := 16) (by decide +kernel))) (by decide +kernel)
theorem mw1208 : Cond.code yX10_relatives cX10_relatives 6 (some .long) ∈ GW := mwq (tb7 _ (List.mem_of_getElem? (i := 17) (by decide +kernel))) (by decide +kernel)
theorem mw1209 : Cond.constantLong RX10 347 (Int64.ofInt (-9223372036854775808)) ∈ GW := mwq (tb7 _ (List.mem_of_getElem? (i := 18) (by decide +kernel))) (by decide +kernel)
theorem mw1210 : Cond.methodLink RL 139 yX10_ancestors ∈ GW := mwq (tb7 _ (List.mem_of_getElem? (i := 19) (by decide +kernel))) (by decide +kernel)
theorem mw1211 : Cond.instanceMethod yX10_ancestors ∈ GW := mwq (tb7 _ (List.mem_of_getElem? (i := 20) (by decide +kernel))) (by decide +kernel)
theorem mw1212 : Cond.selects RX10 yX10_ancestors yX10_ancestors ∈ GW := mwq (tb7 _ (List.mem_of_getElem? (i := 21) (by decide +kernel))) (by decide +kernel)
theorem mw1213 : Cond.code yX10_ancestors cX10_ancestors 2 (some .long) ∈ GW := mwq (tb7 _ (List.mem_of_getElem? (i := 22) (by decide +kernel))) (by decide +kernel)
theorem mw1214 : Cond.methodLink RL 143 yX10_descendants ∈ GW := mwq (tb7 _ (List.mem_of_getElem? (i := 23) (by decide +kernel))) (by decide +kernel)
theorem mw1215 : Cond.instanceMethod yX10_descendants ∈ GW := mwq (tb7 _ (List.mem_of_getElem? (i := 24) (by decide +kernel))) (by decide +kernel)
theorem mw1216 : Cond.selects RX10 yX10_descendants yX10_descendants ∈ GW := mwq (tb7 _ (List.mem_of_getElem? (i := 25) (by decide +kernel))) (by decide +kernel)
theorem mw1217 : Cond.code yX10_descendants cX10_descendants 4 (some .long) ∈ GW := mwq (tb7 _ (List.mem_of_getElem? (i := 26) (by decide +kernel))) (by decide +kernel)
theorem mw1218 : Cond.methodLink RL 147 yX10_order ∈ GW := mwq (tb7 _ (List.mem_of_getElem? (i := 27) (by decide +kernel))) (by decide +kernel)
theorem mw1219 : Cond.instanceMethod yX10_order ∈ GW := mwq (tb7 _ (List.mem_of_getElem? (i := 28) (by decide +kernel))) (by decide +kernel)
theorem mw1220 : Cond.selects RX10 yX10_order yX10_order ∈ GW := mwq (tb7 _ (List.mem_of_getElem? (i := 29) (by decide +kernel))) (by decide +kernel)
theorem mw1221 : Cond.code yX10_order cX10_order 2 (some .int) ∈ GW := mwq (tb7 _ (List.mem_of_getElem? (i := 30) (by decide +kernel))) (by decide +kernel)
theorem mw1222 : Cond.methodLink RX10 352 yX10_orders ∈ GW := mwq (tb7 _ (List.mem_of_getElem? (i := 31) (by decide +kernel))) (by decide +kernel)
theorem mw1223 : Cond.instanceMethod yX10_orders ∈ GW := mwq (tb7 _ (List.mem_of_getElem? (i := 33) (by decide +kernel))) (by decide +kernel)
theorem mw1224 : Cond.code yX10_orders cX10_orders 4 (some .int) ∈ GW := mwq (tb7 _ (List.mem_of_getElem? (i := 34) (by decide +kernel))) (by decide +kernel)
theorem mw1225 : Cond.methodLink RX10 349 yX10_isBornAhead ∈ GW := mwq (tb7 _ (List.mem_of_getElem? (i := 35) (by decide +kernel))) (by decide +kernel)
theorem mw1226 : Cond.instanceMethod yX10_isBornAhead ∈ GW := mwq (tb7 _ (List.mem_of_getElem? (i := 37) (by decide +kernel))) (by decide +kernel)
theorem mw1227 : Cond.code yX10_isBornAhead cX10_isBornAhead 5 (some .boolean) ∈ GW := mwq (tb7 _ (List.mem_of_getElem? (i := 38) (by decide +kernel))) (by decide +kernel)
theorem mw1228 : Cond.methodLink RL 151 yX10_ahead ∈ GW := mwq (tb7 _ (List.mem_of_getElem? (i := 39) (by decide +kernel))) (by decide +kernel)
theorem mw1229 : Cond.instanceMethod yX10_ahead ∈ GW := mwq (tb7 _ (List.mem_of_getElem? (i := 40) (by decide +kernel))) (by decide +kernel)
theorem mw1230 : Cond.selects RX10 yX10_ahead yX10_ahead ∈ GW := mwq (tb7 _ (List.mem_of_getElem? (i := 41) (by decide +kernel))) (by decide +kernel)
theorem mw1231 : Cond.code yX10_ahead cX10_ahead 5 (some .int) ∈ GW := mwq (tb7 _ (List.mem_of_getElem? (i := 42) (by decide +kernel))) (by decide +kernel)
theorem mw1232 : Cond.methodLink RL 155 yX10_told_ ∈ GW := mwq (tb7 _ (List.mem_of_getElem? (i := 43) (by decide +kernel))) (by decide +kernel)
theorem mw1233 : Cond.instanceMethod yX10_told_ ∈ GW := mwq (tb7 _ (List.mem_of_getElem? (i := 44) (by decide +kernel))) (by decide +kernel)
theorem mw1234 : Cond.selects RX10 yX10_told_ yX10_told_ ∈ GW := mwq (tb7 _ (List.mem_of_getElem? (i := 45) (by decide +kernel))) (by decide +kernel)
theorem mw1235 : Cond.code yX10_told_ cX10_told_ 6 (some .int) ∈ GW := mwq (tb7 _ (List.mem_of_getElem? (i := 46) (by decide +kernel))) (by decide +kernel)
theorem mw1236 : Cond.methodLink RL 159 yX10_list ∈ GW := mwq (tb7 _ (List.mem_of_getElem? (i := 47) (by decide +kernel))) (by decide +kernel)
theorem mw1237 : Cond.instanceMethod yX10_list ∈ GW := mwq (tb7 _ (List.mem_of_getElem? (i := 48) (by decide +kernel))) (by decide +kernel)
theorem mw1238 : Cond.selects RX10 yX10_list yX10_list ∈ GW := mwq (tb7 _ (List.mem_of_getElem? (i := 49) (by decide +kernel))) (by decide +kernel)
theorem mw1239 : Cond.code yX10_list cX10_list 4 (some .int) ∈ GW := mwq (tb7 _ (List.mem_of_getElem? (i := 50) (by decide +kernel))) (by decide +kernel)
theorem mw1240 : Cond.methodLink RX10 355 yX10_isList ∈ GW := mwq (tb7 _ (List.mem_of_getElem? (i := 51) (by decide +kernel))) (by decide +kernel)
theorem mw1241 : Cond.static yX10_isList ∈ GW := mwq (tb7 _ (List.mem_of_getElem? (i := 52) (by decide +kernel))) (by decide +kernel)
theorem mw1242 : Cond.code yX10_isList cX10_isList 1 (some .boolean) ∈ GW := mwq (tb7 _ (List.mem_of_getElem? (i := 53) (by decide +kernel))) (by decide +kernel)
theorem mw1243 : Cond.methodLink RL 163 yX10_set ∈ GW := mwq (tb7 _ (List.mem_of_getElem? (i := 54) (by decide +kernel))) (by decide +kernel)
theorem mw1244 : Cond.instanceMethod yX10_set ∈ GW := mwq (tb7 _ (List.mem_of_getElem? (i := 55) (by decide +kernel))) (by decide +kernel)
theorem mw1245 : Cond.selects RX10 yX10_set yX10_set ∈ GW := mwq (tb7 _ (List.mem_of_getElem? (i := 56) (by decide +kernel))) (by decide +kernel)
theorem mw1246 : Cond.code yX10_set cX10_set 4 (some .int) ∈ GW := mwq (tb7 _ (List.mem_of_getElem? (i := 57) (by decide +kernel))) (by decide +kernel)
theorem mw1247 : Cond.methodLink RL 167 yX10_get ∈ GW := mwq (tb7 _ (List.mem_of_getElem? (i := 58) (by decide +kernel))) (by decide +kernel)
theorem mw1248 : Cond.instanceMethod yX10_get ∈ GW := mwq (tb7 _ (List.mem_of_getElem? (i := 59) (by decide +kernel))) (by decide +kernel)
theorem mw1249 : Cond.selects RX10 yX10_get yX10_get ∈ GW := mwq (tb7 _ (List.mem_of_getElem? (i := 60) (by decide +kernel))) (by decide +kernel)
theorem mw1250 : Cond.code yX10_get cX10_get 3 (some .long) ∈ GW := mwq (tb7 _ (List.mem_of_getElem? (i := 61) (by decide +kernel))) (by decide +kernel)
theorem mw1251 : Cond.methodLink RL 171 yX10_lay ∈ GW := mwq (tb7 _ (List.mem_of_getElem? (i := 62) (by decide +kernel))) (by decide +kernel)
theorem mw1252 : Cond.instanceMethod yX10_lay ∈ GW := mwq (tb7 _ (List.mem_of_getElem? (i := 63) (by decide +kernel))) (by decide +kernel)
theorem mw1253 : Cond.selects RX10 yX10_lay yX10_lay ∈ GW := mwq (tb7 _ (List.mem_of_getElem? (i := 64) (by decide +kernel))) (by decide +kernel)
theorem mw1254 : Cond.code yX10_lay cX10_lay 5 (some .int) ∈ GW := mwq (tb7 _ (List.mem_of_getElem? (i := 65) (by decide +kernel))) (by decide +kernel)
theorem mw1255 : Cond.methodLink RL 175 yX10_judge ∈ GW := mwq (tb7 _ (List.mem_of_getElem? (i := 66) (by decide +kernel))) (by decide +kernel)
theorem mw1256 : Cond.instanceMethod yX10_judge ∈ GW := mwq (tb7 _ (List.mem_of_getElem? (i := 67) (by decide +kernel))) (by decide +kernel)
theorem mw1257 : Cond.selects RX10 yX10_judge yX10_judge ∈ GW := mwq (tb7 _ (List.mem_of_getElem? (i := 68) (by decide +kernel))) (by decide +kernel)
theorem mw1258 : Cond.code yX10_judge cX10_judge 5 (some .int) ∈ GW := mwq (tb7 _ (List.mem_of_getElem? (i := 69) (by decide +kernel))) (by decide +kernel)
theorem mw1259 : Cond.methodLink RL 179 yX10_image ∈ GW := mwq (tb7 _ (List.mem_of_getElem? (i := 70) (by decide +kernel))) (by decide +kernel)
theorem mw1260 : Cond.instanceMethod yX10_image ∈ GW := mwq (tb7 _ (List.mem_of_getElem? (i := 71) (by decide +kernel))) (by decide +kernel)
theorem mw1261 : Cond.selects RX10 yX10_image yX10_image ∈ GW := mwq (tb7 _ (List.mem_of_getElem? (i := 72) (by decide +kernel))) (by decide +kernel)
theorem mw1262 : Cond.code yX10_image cX10_image 1 (some .int) ∈ GW := mwq (tb7 _ (List.mem_of_getElem? (i := 73) (by decide +kernel))) (by decide +kernel)
theorem mw1263 : Cond.methodLink RX10 358 yX10_copies ∈ GW := mwq (tb7 _ (List.mem_of_getElem? (i := 74) (by decide +kernel))) (by decide +kernel)
theorem mw1264 : Cond.static yX10_copies ∈ GW := mwq (tb7 _ (List.mem_of_getElem? (i := 75) (by decide +kernel))) (by decide +kernel)
theorem mw1265 : Cond.code yX10_copies cX10_copies 3 none ∈ GW := mwq (tb7 _ (List.mem_of_getElem? (i := 76) (by decide +kernel))) (by decide +kernel)
theorem mw1266 : Cond.methodLink RL 183 yX10_undo ∈ GW := mwq (tb7 _ (List.mem_of_getElem? (i := 77) (by decide +kernel))) (by decide +kernel)
theorem mw1267 : Cond.instanceMethod yX10_undo ∈ GW := mwq (tb7 _ (List.mem_of_getElem? (i := 78) (by decide +kernel))) (by decide +kernel)
theorem mw1268 : Cond.selects RX10 yX10_undo yX10_undo ∈ GW := mwq (tb7 _ (List.mem_of_getElem? (i := 79) (by decide +kernel))) (by decide +kernel)
theorem mw1269 : Cond.code yX10_undo cX10_undo 1 (some .int) ∈ GW := mwq (tb7 _ (List.mem_of_getElem? (i := 80) (by decide +kernel))) (by decide +kernel)
theorem mw1270 : Cond.fieldLink RJ0 15 "java/lang/String" "coder" "B" ∈ GW := mwq (tb7 _ (List.mem_of_getElem? (i := 81) (by decide +kernel))) (by decide +kernel)
theorem mw1271 : Cond.fieldLink RJ0 9 "java/lang/String" "value" "[B" ∈ GW := mwq (tb7 _ (List.mem_of_getElem? (i := 82) (by decide +kernel))) (by decide +kernel)
theorem mw1272 : Cond.arrayClass FieldType.char ∈ GW := mwq (tb7 _ (List.mem_of_getElem? (i := 83) (by decide +kernel))) (by decide +kernel)
theorem mw1273 : Cond.selects RX9 yX9_unsettle yX9_unsettle ∈ GW := mwq (tbp1 _ (List.mem_map.mpr ⟨(yX9_unsettle, 14), List.mem_of_getElem? (i := 0) rfl, rfl⟩)) (by decide +kernel)
theorem mw1274 : Cond.selects RX4 yX4_takeNumber yX4_takeNumber ∈ GW := mwq (tbp1 _ (List.mem_map.mpr ⟨(yX4_takeNumber, 8), List.mem_of_getElem? (i := 1) rfl, rfl⟩)) (by decide +kernel)
theorem mw1275 : Cond.selects RX0 yX0_isNamed yX0_isNamed ∈ GW := mwq (tbp1 _ (List.mem_map.mpr ⟨(yX0_isNamed, 11), List.mem_of_getElem? (i := 2) rfl, rfl⟩)) (by decide +kernel)
theorem mw1276 : Cond.selects RX0 yX0_compareNames yX0_compareNames ∈ GW := mwq (tbp1 _ (List.mem_map.mpr ⟨(yX0_compareNames, 11), List.mem_of_getElem? (i := 3) rfl, rfl⟩)) (by decide +kernel)
theorem mw1277 : Cond.selects RX9 yX9_settle yX9_settle ∈ GW := mwq (tbp1 _ (List.mem_map.mpr ⟨(yX9_settle, 14), List.mem_of_getElem? (i := 4) rfl, rfl⟩)) (by decide +kernel)
theorem mw1278 : Cond.selects RX1 yX1_wipe yX1_wipe ∈ GW := mwq (tbp1 _ (List.mem_map.mpr ⟨(yX1_wipe, 13), List.mem_of_getElem? (i := 5) rfl, rfl⟩)) (by decide +kernel)
theorem mw1279 : Cond.selects RX1 yX1_joinSames yX1_joinSames ∈ GW := mwq (tbp1 _ (List.mem_map.mpr ⟨(yX1_joinSames, 13), List.mem_of_getElem? (i := 6) rfl, rfl⟩)) (by decide +kernel)
theorem mw1280 : Cond.selects RX1 yX1_rename yX1_rename ∈ GW := mwq (tbp1 _ (List.mem_map.mpr ⟨(yX1_rename, 13), List.mem_of_getElem? (i := 7) rfl, rfl⟩)) (by decide +kernel)
theorem mw1281 : Cond.selects RX1 yX1_hear yX1_hear ∈ GW := mwq (tbp1 _ (List.mem_map.mpr ⟨(yX1_hear, 13), List.mem_of_getElem? (i := 8) rfl, rfl⟩)) (by decide +kernel)
theorem mw1282 : Cond.selects RX1 yX1_climb yX1_climb ∈ GW := mwq (tbp1 _ (List.mem_map.mpr ⟨(yX1_climb, 13), List.mem_of_getElem? (i := 9) rfl, rfl⟩)) (by decide +kernel)
theorem mw1283 : Cond.selects RX1 yX1_generationOver yX1_generationOver ∈ GW := mwq (tbp1 _ (List.mem_map.mpr ⟨(yX1_generationOver, 13), List.mem_of_getElem? (i := 10) rfl, rfl⟩)) (by decide +kernel)
theorem mw1284 : Cond.selects RX8 yX8_note yX8_note ∈ GW := mwq (tbp1 _ (List.mem_map.mpr ⟨(yX8_note, 7), List.mem_of_getElem? (i := 11) rfl, rfl⟩)) (by decide +kernel)
theorem mw1285 : Cond.selects RX8 yX8_takeRules yX8_takeRules ∈ GW := mwq (tbp1 _ (List.mem_map.mpr ⟨(yX8_takeRules, 7), List.mem_of_getElem? (i := 12) rfl, rfl⟩)) (by decide +kernel)
theorem mw1286 : Cond.selects RX3 yX3_addLess yX3_addLess ∈ GW := mwq (tbp1 _ (List.mem_map.mpr ⟨(yX3_addLess, 12), List.mem_of_getElem? (i := 13) rfl, rfl⟩)) (by decide +kernel)
theorem mw1287 : Cond.selects RX3 yX3_addIn yX3_addIn ∈ GW := mwq (tbp1 _ (List.mem_map.mpr ⟨(yX3_addIn, 12), List.mem_of_getElem? (i := 14) rfl, rfl⟩)) (by decide +kernel)
theorem mw1288 : Cond.selects RX3 yX3_addMarriedOne yX3_addMarriedOne ∈ GW := mwq (tbp1 _ (List.mem_map.mpr ⟨(yX3_addMarriedOne, 12), List.mem_of_getElem? (i := 15) rfl, rfl⟩)) (by decide +kernel)
theorem mw1289 : Cond.selects RX3 yX3_apply yX3_apply ∈ GW := mwq (tbp2 _ (List.mem_map.mpr ⟨(yX3_apply, 12), List.mem_of_getElem? (i := 0) rfl, rfl⟩)) (by decide +kernel)
theorem mw1290 : Cond.selects RX3 yX3_raise yX3_raise ∈ GW := mwq (tbp2 _ (List.mem_map.mpr ⟨(yX3_raise, 12), List.mem_of_getElem? (i := 1) rfl, rfl⟩)) (by decide +kernel)
theorem mw1291 : Cond.selects RX3 yX3_change yX3_change ∈ GW := mwq (tbp2 _ (List.mem_map.mpr ⟨(yX3_change, 12), List.mem_of_getElem? (i := 2) rfl, rfl⟩)) (by decide +kernel)
theorem mw1292 : Cond.selects RX3 yX3_lower yX3_lower ∈ GW := mwq (tbp2 _ (List.mem_map.mpr ⟨(yX3_lower, 12), List.mem_of_getElem? (i := 3) rfl, rfl⟩)) (by decide +kernel)
theorem mw1293 : Cond.selects RX8 yX8_isBornAhead yX8_isBornAhead ∈ GW := mwq (tbp2 _ (List.mem_map.mpr ⟨(yX8_isBornAhead, 7), List.mem_of_getElem? (i := 4) rfl, rfl⟩)) (by decide +kernel)
theorem mw1294 : Cond.selects RX9 yX9_isEnd yX9_isEnd ∈ GW := mwq (tbp2 _ (List.mem_map.mpr ⟨(yX9_isEnd, 14), List.mem_of_getElem? (i := 5) rfl, rfl⟩)) (by decide +kernel)
theorem mw1295 : Cond.selects RX3 yX3_follow yX3_follow ∈ GW := mwq (tbp2 _ (List.mem_map.mpr ⟨(yX3_follow, 12), List.mem_of_getElem? (i := 6) rfl, rfl⟩)) (by decide +kernel)
theorem mw1296 : Cond.selects RX9 yX9_settleCulprits yX9_settleCulprits ∈ GW := mwq (tbp2 _ (List.mem_map.mpr ⟨(yX9_settleCulprits, 14), List.mem_of_getElem? (i := 7) rfl, rfl⟩)) (by decide +kernel)
theorem mw1297 : Cond.selects RX9 yX9_arePersons yX9_arePersons ∈ GW := mwq (tbp2 _ (List.mem_map.mpr ⟨(yX9_arePersons, 14), List.mem_of_getElem? (i := 8) rfl, rfl⟩)) (by decide +kernel)
theorem mw1298 : Cond.selects RX9 yX9_workOneMore yX9_workOneMore ∈ GW := mwq (tbp2 _ (List.mem_map.mpr ⟨(yX9_workOneMore, 14), List.mem_of_getElem? (i := 9) rfl, rfl⟩)) (by decide +kernel)
theorem mw1299 : Cond.selects RX9 yX9_seekWays yX9_seekWays ∈ GW := mwq (tbp2 _ (List.mem_map.mpr ⟨(yX9_seekWays, 14), List.mem_of_getElem? (i := 10) rfl, rfl⟩)) (by decide +kernel)
theorem mw1300 : Cond.selects RX7 yX7_isNearer yX7_isNearer ∈ GW := mwq (tbp2 _ (List.mem_map.mpr ⟨(yX7_isNearer, 5), List.mem_of_getElem? (i := 11) rfl, rfl⟩)) (by decide +kernel)
theorem mw1301 : Cond.selects RX7 yX7_descend yX7_descend ∈ GW := mwq (tbp2 _ (List.mem_map.mpr ⟨(yX7_descend, 5), List.mem_of_getElem? (i := 12) rfl, rfl⟩)) (by decide +kernel)
theorem mw1302 : Cond.selects RX10 yX10_works yX10_works ∈ GW := mwq (tbp2 _ (List.mem_map.mpr ⟨(yX10_works, 31), List.mem_of_getElem? (i := 13) rfl, rfl⟩)) (by decide +kernel)
theorem mw1303 : Cond.selects RX10 yX10_joins yX10_joins ∈ GW := mwq (tbp2 _ (List.mem_map.mpr ⟨(yX10_joins, 31), List.mem_of_getElem? (i := 14) rfl, rfl⟩)) (by decide +kernel)
theorem mw1304 : Cond.selects RX10 yX10_isLive yX10_isLive ∈ GW := mwq (tbp2 _ (List.mem_map.mpr ⟨(yX10_isLive, 31), List.mem_of_getElem? (i := 15) rfl, rfl⟩)) (by decide +kernel)
theorem mw1305 : Cond.selects RX10 yX10_told yX10_told ∈ GW := mwq (tbp3 _ (List.mem_map.mpr ⟨(yX10_told, 31), List.mem_of_getElem? (i := 0) rfl, rfl⟩)) (by decide +kernel)
theorem mw1306 : Cond.selects RX10 yX10_parents yX10_parents ∈ GW := mwq (tbp3 _ (List.mem_map.mpr ⟨(yX10_parents, 31), List.mem_of_getElem? (i := 1) rfl, rfl⟩)) (by decide +kernel)
theorem mw1307 : Cond.selects RX10 yX10_looks yX10_looks ∈ GW := mwq (tbp3 _ (List.mem_map.mpr ⟨(yX10_looks, 31), List.mem_of_getElem? (i := 2) rfl, rfl⟩)) (by decide +kernel)
theorem mw1308 : Cond.selects RX10 yX10_isOne yX10_isOne ∈ GW := mwq (tbp3 _ (List.mem_map.mpr ⟨(yX10_isOne, 31), List.mem_of_getElem? (i := 3) rfl, rfl⟩)) (by decide +kernel)
theorem mw1309 : Cond.selects RX10 yX10_sexes yX10_sexes ∈ GW := mwq (tbp3 _ (List.mem_map.mpr ⟨(yX10_sexes, 31), List.mem_of_getElem? (i := 4) rfl, rfl⟩)) (by decide +kernel)
theorem mw1310 : Cond.selects RX10 yX10_sexOf yX10_sexOf ∈ GW := mwq (tbp3 _ (List.mem_map.mpr ⟨(yX10_sexOf, 31), List.mem_of_getElem? (i := 5) rfl, rfl⟩)) (by decide +kernel)
theorem mw1311 : Cond.selects RX10 yX10_clashes yX10_clashes ∈ GW := mwq (tbp3 _ (List.mem_map.mpr ⟨(yX10_clashes, 31), List.mem_of_getElem? (i := 6) rfl, rfl⟩)) (by decide +kernel)
theorem mw1312 : Cond.selects RX10 yX10_differ yX10_differ ∈ GW := mwq (tbp3 _ (List.mem_map.mpr ⟨(yX10_differ, 31), List.mem_of_getElem? (i := 7) rfl, rfl⟩)) (by decide +kernel)
theorem mw1313 : Cond.selects RX10 yX10_narrows yX10_narrows ∈ GW := mwq (tbp3 _ (List.mem_map.mpr ⟨(yX10_narrows, 31), List.mem_of_getElem? (i := 8) rfl, rfl⟩)) (by decide +kernel)
theorem mw1314 : Cond.selects RX10 yX10_applies yX10_applies ∈ GW := mwq (tbp3 _ (List.mem_map.mpr ⟨(yX10_applies, 31), List.mem_of_getElem? (i := 9) rfl, rfl⟩)) (by decide +kernel)
theorem mw1315 : Cond.selects RX10 yX10_isWithin yX10_isWithin ∈ GW := mwq (tbp3 _ (List.mem_map.mpr ⟨(yX10_isWithin, 31), List.mem_of_getElem? (i := 10) rfl, rfl⟩)) (by decide +kernel)
theorem mw1316 : Cond.selects RX10 yX10_weds yX10_weds ∈ GW := mwq (tbp3 _ (List.mem_map.mpr ⟨(yX10_weds, 31), List.mem_of_getElem? (i := 11) rfl, rfl⟩)) (by decide +kernel)
theorem mw1317 : Cond.selects RX10 yX10_lettersOnTape yX10_lettersOnTape ∈ GW := mwq (tbp3 _ (List.mem_map.mpr ⟨(yX10_lettersOnTape, 31), List.mem_of_getElem? (i := 12) rfl, rfl⟩)) (by decide +kernel)
theorem mw1318 : Cond.selects RX10 yX10_isPerson yX10_isPerson ∈ GW := mwq (tbp3 _ (List.mem_map.mpr ⟨(yX10_isPerson, 31), List.mem_of_getElem? (i := 13) rfl, rfl⟩)) (by decide +kernel)
theorem mw1319 : Cond.selects RX10 yX10_reads yX10_reads ∈ GW := mwq (tbp3 _ (List.mem_map.mpr ⟨(yX10_reads, 31), List.mem_of_getElem? (i := 14) rfl, rfl⟩)) (by decide +kernel)
theorem mw1320 : Cond.selects RX10 yX10_fails yX10_fails ∈ GW := mwq (tbp3 _ (List.mem_map.mpr ⟨(yX10_fails, 31), List.mem_of_getElem? (i := 15) rfl, rfl⟩)) (by decide +kernel)
theorem mw1321 : Cond.selects RX10 yX10_number yX10_number ∈ GW := mwq (tbp4 _ (List.mem_map.mpr ⟨(yX10_number, 31), List.mem_of_getElem? (i := 0) rfl, rfl⟩)) (by decide +kernel)
theorem mw1322 : Cond.selects RX10 yX10_comes yX10_comes ∈ GW := mwq (tbp4 _ (List.mem_map.mpr ⟨(yX10_comes, 31), List.mem_of_getElem? (i := 1) rfl, rfl⟩)) (by decide +kernel)
theorem mw1323 : Cond.selects RX10 yX10_isStatement yX10_isStatement ∈ GW := mwq (tbp4 _ (List.mem_map.mpr ⟨(yX10_isStatement, 31), List.mem_of_getElem? (i := 2) rfl, rfl⟩)) (by decide +kernel)
theorem mw1324 : Cond.selects RX10 yX10_writes yX10_writes ∈ GW := mwq (tbp4 _ (List.mem_map.mpr ⟨(yX10_writes, 31), List.mem_of_getElem? (i := 3) rfl, rfl⟩)) (by decide +kernel)
theorem mw1325 : Cond.selects RX10 yX10_writesNumber yX10_writesNumber ∈ GW := mwq (tbp4 _ (List.mem_map.mpr ⟨(yX10_writesNumber, 31), List.mem_of_getElem? (i := 4) rfl, rfl⟩)) (by decide +kernel)
theorem mw1326 : Cond.selects RX10 yX10_lengthOf yX10_lengthOf ∈ GW := mwq (tbp4 _ (List.mem_map.mpr ⟨(yX10_lengthOf, 31), List.mem_of_getElem? (i := 5) rfl, rfl⟩)) (by decide +kernel)
theorem mw1327 : Cond.selects RX10 yX10_letterOf yX10_letterOf ∈ GW := mwq (tbp4 _ (List.mem_map.mpr ⟨(yX10_letterOf, 31), List.mem_of_getElem? (i := 6) rfl, rfl⟩)) (by decide +kernel)
theorem mw1328 : Cond.selects RX10 yX10_compares yX10_compares ∈ GW := mwq (tbp4 _ (List.mem_map.mpr ⟨(yX10_compares, 31), List.mem_of_getElem? (i := 7) rfl, rfl⟩)) (by decide +kernel)
theorem mw1329 : Cond.selects RX10 yX10_childrenOf yX10_childrenOf ∈ GW := mwq (tbp4 _ (List.mem_map.mpr ⟨(yX10_childrenOf, 31), List.mem_of_getElem? (i := 8) rfl, rfl⟩)) (by decide +kernel)
theorem mw1330 : Cond.selects RX10 yX10_marriages yX10_marriages ∈ GW := mwq (tbp4 _ (List.mem_map.mpr ⟨(yX10_marriages, 31), List.mem_of_getElem? (i := 9) rfl, rfl⟩)) (by decide +kernel)
theorem mw1331 : Cond.selects RX10 yX10_ages yX10_ages ∈ GW := mwq (tbp4 _ (List.mem_map.mpr ⟨(yX10_ages, 31), List.mem_of_getElem? (i := 10) rfl, rfl⟩)) (by decide +kernel)
theorem mw1332 : Cond.selects RX10 yX10_isEnd yX10_isEnd ∈ GW := mwq (tbp4 _ (List.mem_map.mpr ⟨(yX10_isEnd, 31), List.mem_of_getElem? (i := 11) rfl, rfl⟩)) (by decide +kernel)
theorem mw1333 : Cond.selects RX10 yX10_endOf yX10_endOf ∈ GW := mwq (tbp4 _ (List.mem_map.mpr ⟨(yX10_endOf, 31), List.mem_of_getElem? (i := 12) rfl, rfl⟩)) (by decide +kernel)
theorem mw1334 : Cond.selects RX10 yX10_rests yX10_rests ∈ GW := mwq (tbp4 _ (List.mem_map.mpr ⟨(yX10_rests, 31), List.mem_of_getElem? (i := 13) rfl, rfl⟩)) (by decide +kernel)
theorem mw1335 : Cond.selects RX10 yX10_widthOf yX10_widthOf ∈ GW := mwq (tbp4 _ (List.mem_map.mpr ⟨(yX10_widthOf, 31), List.mem_of_getElem? (i := 14) rfl, rfl⟩)) (by decide +kernel)
theorem mw1336 : Cond.selects RX10 yX10_areTwo yX10_areTwo ∈ GW := mwq (tbp4 _ (List.mem_map.mpr ⟨(yX10_areTwo, 31), List.mem_of_getElem? (i := 15) rfl, rfl⟩)) (by decide +kernel)
theorem mw1337 : Cond.selects RX10 yX10_meets yX10_meets ∈ GW := mwq (tbp5 _ (List.mem_map.mpr ⟨(yX10_meets, 31), List.mem_of_getElem? (i := 0) rfl, rfl⟩)) (by decide +kernel)
theorem mw1338 : Cond.selects RX10 yX10_steps yX10_steps ∈ GW := mwq (tbp5 _ (List.mem_map.mpr ⟨(yX10_steps, 31), List.mem_of_getElem? (i := 1) rfl, rfl⟩)) (by decide +kernel)
theorem mw1339 : Cond.selects RX10 yX10_isHalf yX10_isHalf ∈ GW := mwq (tbp5 _ (List.mem_map.mpr ⟨(yX10_isHalf, 31), List.mem_of_getElem? (i := 2) rfl, rfl⟩)) (by decide +kernel)
theorem mw1340 : Cond.selects RX10 yX10_under yX10_under ∈ GW := mwq (tbp5 _ (List.mem_map.mpr ⟨(yX10_under, 31), List.mem_of_getElem? (i := 3) rfl, rfl⟩)) (by decide +kernel)
theorem mw1341 : Cond.selects RX10 yX10_marriedTo yX10_marriedTo ∈ GW := mwq (tbp5 _ (List.mem_map.mpr ⟨(yX10_marriedTo, 31), List.mem_of_getElem? (i := 4) rfl, rfl⟩)) (by decide +kernel)
theorem mw1342 : Cond.selects RX10 yX10_writesBy yX10_writesBy ∈ GW := mwq (tbp5 _ (List.mem_map.mpr ⟨(yX10_writesBy, 31), List.mem_of_getElem? (i := 5) rfl, rfl⟩)) (by decide +kernel)
theorem mw1343 : Cond.selects RX10 yX10_writes_ yX10_writes_ ∈ GW := mwq (tbp5 _ (List.mem_map.mpr ⟨(yX10_writes_, 31), List.mem_of_getElem? (i := 6) rfl, rfl⟩)) (by decide +kernel)
theorem mw1344 : Cond.selects RX10 yX10_grands yX10_grands ∈ GW := mwq (tbp5 _ (List.mem_map.mpr ⟨(yX10_grands, 31), List.mem_of_getElem? (i := 7) rfl, rfl⟩)) (by decide +kernel)
theorem mw1345 : Cond.selects RX10 yX10_orders yX10_orders ∈ GW := mwq (tbp5 _ (List.mem_map.mpr ⟨(yX10_orders, 31), List.mem_of_getElem? (i := 8) rfl, rfl⟩)) (by decide +kernel)
theorem mw1346 : Cond.selects RX10 yX10_isBornAhead yX10_isBornAhead ∈ GW := mwq (tbp5 _ (List.mem_map.mpr ⟨(yX10_isBornAhead, 31), List.mem_of_getElem? (i := 9) rfl, rfl⟩)) (by decide +kernel)
theorem inG0 : ∀ w ∈ u_ws RX0 TX0 11, w ∈ GW := by
  intro w hw
  obtain ⟨k, hk, rfl⟩ := List.mem_map.mp hw
  have hk := List.mem_range.mp hk
  match k, hk with
  | 0, _ => exact mw66
  | 1, _ => exact mw67
  | 2, _ => exact mw68
  | 3, _ => exact mw69
  | 4, _ => exact mw70
  | 5, _ => exact mw71
  | 6, _ => exact mw72
  | 7, _ => exact mw73
  | 8, _ => exact mw74
  | 9, _ => exact mw75
  | 10, _ => exact mw76
  | k + 11, h => exact absurd h (by omega)
theorem inG1 : ∀ w ∈ u_ws RX1 TX1 13, w ∈ GW := by
  intro w hw
  obtain ⟨k, hk, rfl⟩ := List.mem_map.mp hw
  have hk := List.mem_range.mp hk
  match k, hk with
  | 0, _ => exact mw151
  | 1, _ => exact mw152
  | 2, _ => exact mw153
  | 3, _ => exact mw154
  | 4, _ => exact mw155
  | 5, _ => exact mw156
  | 6, _ => exact mw157
  | 7, _ => exact mw158
  | 8, _ => exact mw159
  | 9, _ => exact mw160
  | 10, _ => exact mw161
  | 11, _ => exact mw162
  | 12, _ => exact mw163
  | k + 13, h => exact absurd h (by omega)
theorem inG2 : ∀ w ∈ u_ws RX2 TX2 2, w ∈ GW := by
  intro w hw
  obtain ⟨k, hk, rfl⟩ := List.mem_map.mp hw
  have hk := List.mem_range.mp hk
  match k, hk with
  | 0, _ => exact mw248
  | 1, _ => exact mw249
  | k + 2, h => exact absurd h (by omega)
theorem inG3 : ∀ w ∈ u_ws RX3 TX3 12, w ∈ GW := by
  intro w hw
  obtain ⟨k, hk, rfl⟩ := List.mem_map.mp hw
  have hk := List.mem_range.mp hk
  match k, hk with
  | 0, _ => exact mw186
  | 1, _ => exact mw187
  | 2, _ => exact mw188
  | 3, _ => exact mw189
  | 4, _ => exact mw190
  | 5, _ => exact mw191
  | 6, _ => exact mw192
  | 7, _ => exact mw193
  | 8, _ => exact mw194
  | 9, _ => exact mw195
  | 10, _ => exact mw196
  | 11, _ => exact mw197
  | k + 12, h => exact absurd h (by omega)
theorem inG4 : ∀ w ∈ u_ws RX4 TX4 8, w ∈ GW := by
  intro w hw
  obtain ⟨k, hk, rfl⟩ := List.mem_map.mp hw
  have hk := List.mem_range.mp hk
  match k, hk with
  | 0, _ => exact mw112
  | 1, _ => exact mw113
  | 2, _ => exact mw114
  | 3, _ => exact mw115
  | 4, _ => exact mw116
  | 5, _ => exact mw117
  | 6, _ => exact mw118
  | 7, _ => exact mw119
  | k + 8, h => exact absurd h (by omega)
theorem inG5 : ∀ w ∈ u_ws RX5 TX5 2, w ∈ GW := by
  intro w hw
  obtain ⟨k, hk, rfl⟩ := List.mem_map.mp hw
  have hk := List.mem_range.mp hk
  match k, hk with
  | 0, _ => exact mw91
  | 1, _ => exact mw92
  | k + 2, h => exact absurd h (by omega)
theorem inG7 : ∀ w ∈ u_ws RX7 TX7 5, w ∈ GW := by
  intro w hw
  obtain ⟨k, hk, rfl⟩ := List.mem_map.mp hw
  have hk := List.mem_range.mp hk
  match k, hk with
  | 0, _ => exact mw233
  | 1, _ => exact mw234
  | 2, _ => exact mw235
  | 3, _ => exact mw236
  | 4, _ => exact mw237
  | k + 5, h => exact absurd h (by omega)
theorem inG8 : ∀ w ∈ u_ws RX8 TX8 7, w ∈ GW := by
  intro w hw
  obtain ⟨k, hk, rfl⟩ := List.mem_map.mp hw
  have hk := List.mem_range.mp hk
  match k, hk with
  | 0, _ => exact mw211
  | 1, _ => exact mw212
  | 2, _ => exact mw213
  | 3, _ => exact mw214
  | 4, _ => exact mw215
  | 5, _ => exact mw216
  | 6, _ => exact mw217
  | k + 7, h => exact absurd h (by omega)
theorem inG9 : ∀ w ∈ u_ws RX9 TX9 14, w ∈ GW := by
  intro w hw
  obtain ⟨k, hk, rfl⟩ := List.mem_map.mp hw
  have hk := List.mem_range.mp hk
  match k, hk with
  | 0, _ => exact mw264
  | 1, _ => exact mw265
  | 2, _ => exact mw266
  | 3, _ => exact mw267
  | 4, _ => exact mw268
  | 5, _ => exact mw269
  | 6, _ => exact mw270
  | 7, _ => exact mw271
  | 8, _ => exact mw272
  | 9, _ => exact mw273
  | 10, _ => exact mw274
  | 11, _ => exact mw275
  | 12, _ => exact mw276
  | 13, _ => exact mw277
  | k + 14, h => exact absurd h (by omega)
theorem inG10 : ∀ w ∈ u_ws RX10 TX10 31, w ∈ GW := by
  intro w hw
  obtain ⟨k, hk, rfl⟩ := List.mem_map.mp hw
  have hk := List.mem_range.mp hk
  match k, hk with
  | 0, _ => exact mw953
  | 1, _ => exact mw954
  | 2, _ => exact mw955
  | 3, _ => exact mw956
  | 4, _ => exact mw957
  | 5, _ => exact mw958
  | 6, _ => exact mw959
  | 7, _ => exact mw960
  | 8, _ => exact mw961
  | 9, _ => exact mw962
  | 10, _ => exact mw963
  | 11, _ => exact mw964
  | 12, _ => exact mw965
  | 13, _ => exact mw966
  | 14, _ => exact mw967
  | 15, _ => exact mw968
  | 16, _ => exact mw969
  | 17, _ => exact mw970
  | 18, _ => exact mw971
  | 19, _ => exact mw972
  | 20, _ => exact mw973
  | 21, _ => exact mw974
  | 22, _ => exact mw975
  | 23, _ => exact mw976
  | 24, _ => exact mw977
  | 25, _ => exact mw978
  | 26, _ => exact mw979
  | 27, _ => exact mw980
  | 28, _ => exact mw981
  | 29, _ => exact mw982
  | 30, _ => exact mw983
  | k + 31, h => exact absurd h (by omega)
end
section
/-! the world of a side: cells by number, what they hold as integers; rows of the machine over it -/
def kI (v : Int) : Value := .int (Int32.ofInt v)
def kL (v : Int) : Value := .long (Int64.ofInt v)
def rg (x : Int) : Prop := -2147483648 ≤ x ∧ x ≤ 2147483647
def nn (x : Int) : Prop := 0 ≤ x ∧ x ≤ 2147483647
def bz (x : Int) : Prop := x = 0 ∨ x = 1
def by8 (x : Int) : Prop := -128 ≤ x ∧ x ≤ 127
def inb (i : Int) (n : Nat) : Prop := 0 ≤ i ∧ i < n
abbrev Hp : Type := Nat → Nat → Int
def kup (z : Hp) (c j : Nat) (x : Int) : Hp := fun a b => if a = c ∧ b = j then x else z a b
def kcp (z : Hp) (c0 c1 sp dp n : Nat) : Hp := fun a b => if a = c1 ∧ dp ≤ b ∧ b < dp + n then z c0 (sp + (b - dp)) else z a b
def iand (x y : Int) : Int := (Int32.ofInt x &&& Int32.ofInt y).toInt
def ior (x y : Int) : Int := (Int32.ofInt x ||| Int32.ofInt y).toInt
def ishl (x y : Int) : Int := (Int32.ofInt x <<< (Int32.ofInt y &&& 31)).toInt
def ishr (x y : Int) : Int := (Int32.ofInt x >>> (Int32.ofInt y &&& 31)).toInt
def iushr (x y : Int) : Int := ((Int32.ofInt x).toUInt32 >>> ((Int32.ofInt y).toUInt32 &&& Int32.toUInt32 31)).toInt32.toInt
/-- a let that stays -/
def lt1 (v : Int) (f : Int → Prop) : Prop := f v
/-- a join -/
def jn {α : Sort _} (F : α → Prop) (K : α) : Prop := F K
theorem jn_use {α : Sort _} {F : α → Prop} {K : α} {goal : Prop} (G : α → Prop) (h : jn F K) (hk : G K) (hf : ∀ J, G J → F J → goal) : goal := hf K hk h
/-- loops, by how many integers go round -/
def LP0 (F : (Hp → Prop) → Hp → Prop) (z : Hp) : Prop := ∀ X : Hp → Prop, (∀ z, F X z → X z) → X z
def LP1 (F : (Int → Hp → Prop) → Int → Hp → Prop) (a : Int) (z : Hp) : Prop := ∀ X : Int → Hp → Prop, (∀ a z, F X a z → X a z) → X a z
def LP2 (F : (Int → Int → Hp → Prop) → Int → Int → Hp → Prop) (a b : Int) (z : Hp) : Prop := ∀ X : Int → Int → Hp → Prop, (∀ a b z, F X a b z → X a b z) → X a b z
def LP3 (F : (Int → Int → Int → Hp → Prop) → Int → Int → Int → Hp → Prop) (a b c : Int) (z : Hp) : Prop := ∀ X : Int → Int → Int → Hp → Prop, (∀ a b c z, F X a b c z → X a b c z) → X a b c z
def LP4 (F : (Int → Int → Int → Int → Hp → Prop) → Int → Int → Int → Int → Hp → Prop) (a b c d : Int) (z : Hp) : Prop := ∀ X : Int → Int → Int → Int → Hp → Prop, (∀ a b c d z, F X a b c d z → X a b c d z) → X a b c d z
def LP5 (F : (Int → Int → Int → Int → Int → Hp → Prop) → Int → Int → Int → Int → Int → Hp → Prop) (a b c d e : Int) (z : Hp) : Prop := ∀ X : Int → Int → Int → Int → Int → Hp → Prop, (∀ a b c d e z, F X a b c d e z → X a b c d e z) → X a b c d e z
def LP6 (F : (Int → Int → Int → Int → Int → Int → Hp → Prop) → Int → Int → Int → Int → Int → Int → Hp → Prop) (a b c d e f : Int) (z : Hp) : Prop := ∀ X : Int → Int → Int → Int → Int → Int → Hp → Prop, (∀ a b c d e f z, F X a b c d e f z → X a b c d e f z) → X a b c d e f z
theorem kI_add (x y : Int) : Int32.ofInt x + Int32.ofInt y = Int32.ofInt (x + y) := (Int32.ofInt_add x y).symm
theorem kI_sub (x y : Int) : Int32.ofInt x - Int32.ofInt y = Int32.ofInt (x - y) := (Int32.ofInt_sub x y).symm
theorem kI_mul (x y : Int) : Int32.ofInt x * Int32.ofInt y = Int32.ofInt (x * y) := (Int32.ofInt_mul x y).symm
theorem kI_toInt {x : Int} (h : rg x) : (Int32.ofInt x).toInt = x := Int32.toInt_ofInt_of_le (by have := h.1; omega) (by have := h.2; omega)
theorem kI_lt {x y : Int} (hx : rg x) (hy : rg y) : (Int32.ofInt x < Int32.ofInt y) ↔ x < y := by rw [Int32.lt_iff_toInt_lt, kI_toInt hx, kI_toInt hy]
theorem kI_le {x y : Int} (hx : rg x) (hy : rg y) : (Int32.ofInt x ≤ Int32.ofInt y) ↔ x ≤ y := by rw [Int32.le_iff_toInt_le, kI_toInt hx, kI_toInt hy]
theorem kI_eq {x y : Int} (hx : rg x) (hy : rg y) : (Int32.ofInt x = Int32.ofInt y) ↔ x = y := by rw [← Int32.toInt_inj, kI_toInt hx, kI_toInt hy]
theorem kI_0 : (Int32.ofInt 0) = 0 := rfl
theorem rg0 : rg 0 := ⟨by decide, by decide⟩
theorem kI_clamp {i : Int} {n : Nat} (h : inb i n) (hn : n ≤ 2147483648) : (Int32.ofInt i).toNatClampNeg = i.toNat := by
  have h1 := h.1
  have h2 := h.2
  exact Int32.toNatClampNeg_ofInt_of_le (by omega) (by omega)
theorem kI_in {i : Int} {n : Nat} (h : inb i n) (hn : n ≤ 2147483648) : vp_in (Int32.ofInt i) n := by
  have h1 := h.1
  have h2 := h.2
  have h3 : (Int32.ofInt i).toInt = i := kI_toInt ⟨by omega, by omega⟩
  unfold vp_in
  rw [kI_clamp h hn, Int32.lt_iff_toInt_lt, h3, Int32.toInt_zero]
  omega
theorem kI_and (x y : Int) : Int32.ofInt (iand x y) = Int32.ofInt x &&& Int32.ofInt y := Int32.ofInt_toInt _
theorem kI_or (x y : Int) : Int32.ofInt (ior x y) = Int32.ofInt x ||| Int32.ofInt y := Int32.ofInt_toInt _
theorem kI_shl (x y : Int) : Int32.ofInt (ishl x y) = Int32.ofInt x <<< (Int32.ofInt y &&& 31) := Int32.ofInt_toInt _
theorem kI_shr (x y : Int) : Int32.ofInt (ishr x y) = Int32.ofInt x >>> (Int32.ofInt y &&& 31) := Int32.ofInt_toInt _
theorem kI_ushr (x y : Int) : Int32.ofInt (iushr x y) = ((Int32.ofInt x).toUInt32 >>> ((Int32.ofInt y).toUInt32 &&& Int32.toUInt32 31)).toInt32 := Int32.ofInt_toInt _
theorem kI_div {x y : Int} (hx : nn x) (hy : 0 < y ∧ y ≤ 2147483647) : Int32.ofInt x / Int32.ofInt y = Int32.ofInt (x / y) := by
  have a1 := hx.1
  have a2 := hx.2
  have b1 := hy.1
  have b2 := hy.2
  rw [← Int.tdiv_eq_ediv_of_nonneg a1]
  refine (Int32.ofInt_tdiv ?_ ?_ ?_ ?_).symm <;> first | (show (-2147483648 : Int) ≤ _; omega) | (show _ ≤ (2147483647 : Int); omega)
theorem kI_rem {x y : Int} (hx : nn x) (hy : 0 < y ∧ y ≤ 2147483647) : Int32.ofInt x - Int32.ofInt x / Int32.ofInt y * Int32.ofInt y = Int32.ofInt (x % y) := by
  rw [kI_div hx hy, kI_mul, kI_sub]
  congr 1
  have := Int.mul_ediv_add_emod x y
  rw [Int.mul_comm] at this
  omega
theorem kI_i2b {x : Int} (h : by8 x) : (Int32.ofInt x).toInt8.toInt32 = Int32.ofInt x := by
  have h1 := h.1
  have h2 := h.2
  rw [← Int32.toInt_inj]
  rw [kI_toInt ⟨by omega, by omega⟩, Int8.toInt_toInt32, Int32.toInt_toInt8, kI_toInt ⟨by omega, by omega⟩]
  exact Int.bmod_eq_of_le (by omega) (by omega)
theorem kI_i2l {x : Int} (h : rg x) : (Int32.ofInt x).toInt64 = Int64.ofInt x := by
  have h1 := h.1
  have h2 := h.2
  rw [← Int64.toInt_inj, Int32.toInt_toInt64, kI_toInt h, Int64.toInt_ofInt_of_le (by omega) (by omega)]
theorem kI_bool {x : Int} (h : bz x) : narrow .boolean (.int (Int32.ofInt x)) = .int (Int32.ofInt x) := by
  rcases h with rfl | rfl <;> decide +kernel
end
section
def kroL : List (List Nat) := [[0, 0, 1, 32, 33, 34, 35, 36, 37, 38, 39], [0, 0, 1, 2, 3, 4, 5, 6, 7, 8, 9, 10, 0], [1, 6], [1, 2, 3, 4, 5, 6, 7, 8, 0, 0, 0, 0], [0, 0, 0, 0, 0, 0, 0, 0], [1, 0], [1, 2, 0, 0, 0], [1, 0, 2, 13, 0, 0, 22], [1, 41, 0, 81, 83, 85, 86, 109, 0, 132, 0, 0, 133, 136], [1, 2, 0, 3, 4, 5, 0, 0, 0, 0, 6, 7, 8, 9, 10, 11, 12, 0, 0, 0, 0, 0, 13, 14, 15, 16, 17, 0, 0, 18, 19]]
def kdCL : List (Nat × Nat × Nat) := [(0, 8, 14), (0, 0, 11), (3, 30, 2), (2, 7, 0), (2, 7, 0), (2, 7, 0), (2, 7, 0), (2, 7, 0), (2, 7, 0), (2, 7, 0), (2, 7, 0), (2, 7, 0), (2, 7, 0), (2, 7, 0), (2, 7, 0), (2, 7, 0), (2, 7, 0), (2, 7, 0), (2, 7, 0), (2, 7, 0), (2, 7, 0), (2, 7, 0), (2, 7, 0), (2, 7, 0), (2, 7, 0), (2, 7, 0), (2, 7, 0), (2, 7, 0), (2, 7, 0), (2, 7, 0), (2, 7, 0), (2, 7, 0), (2, 7, 0), (1, 30, 0), (1, 30, 0), (1, 61, 0), (1, 61, 0), (1, 61, 0), (1, 61, 0), (1, 61, 0), (1, 61, 0), (0, 0, 11), (3, 30, 2), (2, 7, 0), (2, 7, 0), (2, 7, 0), (2, 7, 0), (2, 7, 0), (2, 7, 0), (2, 7, 0), (2, 7, 0), (2, 7, 0), (2, 7, 0), (2, 7, 0), (2, 7, 0), (2, 7, 0), (2, 7, 0), (2, 7, 0), (2, 7, 0), (2, 7, 0), (2, 7, 0), (2, 7, 0), (2, 7, 0), (2, 7, 0), (2, 7, 0), (2, 7, 0), (2, 7, 0), (2, 7, 0), (2, 7, 0), (2, 7, 0), (2, 7, 0), (2, 7, 0), (2, 7, 0), (1, 30, 0), (1, 30, 0), (1, 61, 0), (1, 61, 0), (1, 61, 0), (1, 61, 0), (1, 61, 0), (1, 61, 0), (0, 5, 2), (2, 60, 0), (0, 5, 2), (2, 400, 0), (0, 4, 8), (0, 7, 7), (1, 61, 0), (0, 1, 13), (1, 30, 0), (1, 30, 0), (1, 30, 0), (1, 30, 0), (1, 30, 0), (1, 30, 0), (1, 30, 0), (1, 30, 0), (1, 30, 0), (1, 30, 0), (0, 3, 12), (1, 242, 0), (1, 242, 0), (1, 242, 0), (1, 335, 0), (1, 335, 0), (1, 335, 0), (1, 335, 0), (1, 335, 0), (1, 30, 0), (0, 7, 7), (1, 61, 0), (0, 1, 13), (1, 30, 0), (1, 30, 0), (1, 30, 0), (1, 30, 0), (1, 30, 0), (1, 30, 0), (1, 30, 0), (1, 30, 0), (1, 30, 0), (1, 30, 0), (0, 3, 12), (1, 242, 0), (1, 242, 0), (1, 242, 0), (1, 335, 0), (1, 335, 0), (1, 335, 0), (1, 335, 0), (1, 335, 0), (1, 30, 0), (1, 60, 0), (0, 6, 5), (1, 30, 0), (1, 30, 0), (0, 2, 2), (3, 4, 3), (1, 40, 0), (1, 40, 0), (1, 40, 0), (1, 40, 0), (1, 4, 0)]
def kdML : List (Nat × Nat × Nat) := [(0, 9, 31), (1, 608, 0), (1, 608, 0), (1, 60, 0), (1, 640, 0), (1, 6, 0), (1, 30, 0), (1, 30, 0), (1, 30, 0), (1, 30, 0), (1, 240, 0), (1, 240, 0), (1, 240, 0), (1, 30, 0), (1, 30, 0), (1, 60, 0), (1, 30, 0), (1, 30, 0), (1, 4, 0), (1, 160, 0)]
abbrev NC : Nat := 143
abbrev NM : Nat := 20
def kdC (c : Nat) : Nat × Nat × Nat := kdCL.getD c (9, 0, 0)
def kdM (c : Nat) : Nat × Nat × Nat := kdML.getD c (9, 0, 0)
theorem kdC_lt {c : Nat} (h : (kdC c).1 ≠ 9) : c < NC := by
  rcases Nat.lt_or_ge c NC with q | q
  · exact q
  · exact absurd (by unfold kdC; rw [List.getD_eq_getElem?_getD, List.getElem?_eq_none (by exact q)]; rfl) h
theorem kdM_lt {c : Nat} (h : (kdM c).1 ≠ 9) : c < NM := by
  rcases Nat.lt_or_ge c NM with q | q
  · exact q
  · exact absurd (by unfold kdM; rw [List.getD_eq_getElem?_getD, List.getElem?_eq_none (by exact q)]; rfl) h
def kstrL : List (String × Nat × String × List Int) := [("KinProver$Titles", 18, "half", [104, 97, 108, 102]), ("KinProver$Titles", 26, "self", [115, 101, 108, 102]), ("KinProver$Titles", 72, "grand", [103, 114, 97, 110, 100]), ("KinProver$Titles", 34, "daughter", [100, 97, 117, 103, 104, 116, 101, 114]), ("KinProver$Titles", 36, "son", [115, 111, 110]), ("KinProver$Titles", 38, "child", [99, 104, 105, 108, 100]), ("KinProver$Titles", 44, "mother", [109, 111, 116, 104, 101, 114]), ("KinProver$Titles", 46, "father", [102, 97, 116, 104, 101, 114]), ("KinProver$Titles", 48, "parent", [112, 97, 114, 101, 110, 116]), ("KinProver$Titles", 50, "sister", [115, 105, 115, 116, 101, 114]), ("KinProver$Titles", 52, "brother", [98, 114, 111, 116, 104, 101, 114]), ("KinProver$Titles", 54, "sibling", [115, 105, 98, 108, 105, 110, 103]), ("KinProver$Titles", 56, "niece", [110, 105, 101, 99, 101]), ("KinProver$Titles", 58, "nephew", [110, 101, 112, 104, 101, 119]), ("KinProver$Titles", 60, "nibling", [110, 105, 98, 108, 105, 110, 103]), ("KinProver$Titles", 62, "aunt", [97, 117, 110, 116]), ("KinProver$Titles", 64, "uncle", [117, 110, 99, 108, 101]), ("KinProver$Titles", 66, "auncle", [97, 117, 110, 99, 108, 101]), ("KinProver$Titles", 74, "cousin", [99, 111, 117, 115, 105, 110]), ("KinProver", 263, "wife", [119, 105, 102, 101]), ("KinProver", 265, "husband", [104, 117, 115, 98, 97, 110, 100]), ("KinProver", 267, "spouse", [115, 112, 111, 117, 115, 101]), ("KinProver", 273, "none", [110, 111, 110, 101]), ("KinProverModel", 211, "bdmfwslo", [98, 100, 109, 102, 119, 115, 108, 111]), ("KinProverModel", 292, "wife", [119, 105, 102, 101]), ("KinProverModel", 294, "husband", [104, 117, 115, 98, 97, 110, 100]), ("KinProverModel", 296, "spouse", [115, 112, 111, 117, 115, 101]), ("KinProverModel", 302, "none", [110, 111, 110, 101]), ("KinProverModel", 304, "half", [104, 97, 108, 102]), ("KinProverModel", 306, "self", [115, 101, 108, 102]), ("KinProverModel", 287, "grand", [103, 114, 97, 110, 100]), ("KinProverModel", 311, "daughter", [100, 97, 117, 103, 104, 116, 101, 114]), ("KinProverModel", 313, "son", [115, 111, 110]), ("KinProverModel", 315, "child", [99, 104, 105, 108, 100]), ("KinProverModel", 317, "mother", [109, 111, 116, 104, 101, 114]), ("KinProverModel", 318, "father", [102, 97, 116, 104, 101, 114]), ("KinProverModel", 319, "parent", [112, 97, 114, 101, 110, 116]), ("KinProverModel", 321, "sister", [115, 105, 115, 116, 101, 114]), ("KinProverModel", 323, "brother", [98, 114, 111, 116, 104, 101, 114]), ("KinProverModel", 325, "sibling", [115, 105, 98, 108, 105, 110, 103]), ("KinProverModel", 327, "niece", [110, 105, 101, 99, 101]), ("KinProverModel", 329, "nephew", [110, 101, 112, 104, 101, 119]), ("KinProverModel", 331, "nibling", [110, 105, 98, 108, 105, 110, 103]), ("KinProverModel", 333, "aunt", [97, 117, 110, 116]), ("KinProverModel", 335, "uncle", [117, 110, 99, 108, 101]), ("KinProverModel", 337, "auncle", [97, 117, 110, 99, 108, 101]), ("KinProverModel", 339, "cousin", [99, 111, 117, 115, 105, 110])]
def kletL : List Int := [98, 100, 109, 102, 119, 115, 108, 111]
theorem kc_0_2 {w : Nat} (h : kdC w = (0, 0, 11)) : kdC (w + 1) = (3, 30, 2) := (show ∀ w, w < NC → kdC w = (0, 0, 11) → kdC (w + 1) = (3, 30, 2) by decide +kernel) w (kdC_lt (by rw [h]; decide)) h
theorem kc_0_3 {w : Nat} (h : kdC w = (0, 0, 11)) : kdC (w + 32) = (1, 30, 0) := (show ∀ w, w < NC → kdC w = (0, 0, 11) → kdC (w + 32) = (1, 30, 0) by decide +kernel) w (kdC_lt (by rw [h]; decide)) h
theorem kc_0_4 {w : Nat} (h : kdC w = (0, 0, 11)) : kdC (w + 33) = (1, 30, 0) := (show ∀ w, w < NC → kdC w = (0, 0, 11) → kdC (w + 33) = (1, 30, 0) by decide +kernel) w (kdC_lt (by rw [h]; decide)) h
theorem kc_0_5 {w : Nat} (h : kdC w = (0, 0, 11)) : kdC (w + 34) = (1, 61, 0) := (show ∀ w, w < NC → kdC w = (0, 0, 11) → kdC (w + 34) = (1, 61, 0) by decide +kernel) w (kdC_lt (by rw [h]; decide)) h
theorem kc_0_6 {w : Nat} (h : kdC w = (0, 0, 11)) : kdC (w + 35) = (1, 61, 0) := (show ∀ w, w < NC → kdC w = (0, 0, 11) → kdC (w + 35) = (1, 61, 0) by decide +kernel) w (kdC_lt (by rw [h]; decide)) h
theorem kc_0_7 {w : Nat} (h : kdC w = (0, 0, 11)) : kdC (w + 36) = (1, 61, 0) := (show ∀ w, w < NC → kdC w = (0, 0, 11) → kdC (w + 36) = (1, 61, 0) by decide +kernel) w (kdC_lt (by rw [h]; decide)) h
theorem kc_0_8 {w : Nat} (h : kdC w = (0, 0, 11)) : kdC (w + 37) = (1, 61, 0) := (show ∀ w, w < NC → kdC w = (0, 0, 11) → kdC (w + 37) = (1, 61, 0) by decide +kernel) w (kdC_lt (by rw [h]; decide)) h
theorem kc_0_9 {w : Nat} (h : kdC w = (0, 0, 11)) : kdC (w + 38) = (1, 61, 0) := (show ∀ w, w < NC → kdC w = (0, 0, 11) → kdC (w + 38) = (1, 61, 0) by decide +kernel) w (kdC_lt (by rw [h]; decide)) h
theorem kc_0_10 {w : Nat} (h : kdC w = (0, 0, 11)) : kdC (w + 39) = (1, 61, 0) := (show ∀ w, w < NC → kdC w = (0, 0, 11) → kdC (w + 39) = (1, 61, 0) by decide +kernel) w (kdC_lt (by rw [h]; decide)) h
theorem kc_1_2 {w : Nat} (h : kdC w = (0, 1, 13)) : kdC (w + 1) = (1, 30, 0) := (show ∀ w, w < NC → kdC w = (0, 1, 13) → kdC (w + 1) = (1, 30, 0) by decide +kernel) w (kdC_lt (by rw [h]; decide)) h
theorem kc_1_3 {w : Nat} (h : kdC w = (0, 1, 13)) : kdC (w + 2) = (1, 30, 0) := (show ∀ w, w < NC → kdC w = (0, 1, 13) → kdC (w + 2) = (1, 30, 0) by decide +kernel) w (kdC_lt (by rw [h]; decide)) h
theorem kc_1_4 {w : Nat} (h : kdC w = (0, 1, 13)) : kdC (w + 3) = (1, 30, 0) := (show ∀ w, w < NC → kdC w = (0, 1, 13) → kdC (w + 3) = (1, 30, 0) by decide +kernel) w (kdC_lt (by rw [h]; decide)) h
theorem kc_1_5 {w : Nat} (h : kdC w = (0, 1, 13)) : kdC (w + 4) = (1, 30, 0) := (show ∀ w, w < NC → kdC w = (0, 1, 13) → kdC (w + 4) = (1, 30, 0) by decide +kernel) w (kdC_lt (by rw [h]; decide)) h
theorem kc_1_6 {w : Nat} (h : kdC w = (0, 1, 13)) : kdC (w + 5) = (1, 30, 0) := (show ∀ w, w < NC → kdC w = (0, 1, 13) → kdC (w + 5) = (1, 30, 0) by decide +kernel) w (kdC_lt (by rw [h]; decide)) h
theorem kc_1_7 {w : Nat} (h : kdC w = (0, 1, 13)) : kdC (w + 6) = (1, 30, 0) := (show ∀ w, w < NC → kdC w = (0, 1, 13) → kdC (w + 6) = (1, 30, 0) by decide +kernel) w (kdC_lt (by rw [h]; decide)) h
theorem kc_1_8 {w : Nat} (h : kdC w = (0, 1, 13)) : kdC (w + 7) = (1, 30, 0) := (show ∀ w, w < NC → kdC w = (0, 1, 13) → kdC (w + 7) = (1, 30, 0) by decide +kernel) w (kdC_lt (by rw [h]; decide)) h
theorem kc_1_9 {w : Nat} (h : kdC w = (0, 1, 13)) : kdC (w + 8) = (1, 30, 0) := (show ∀ w, w < NC → kdC w = (0, 1, 13) → kdC (w + 8) = (1, 30, 0) by decide +kernel) w (kdC_lt (by rw [h]; decide)) h
theorem kc_1_10 {w : Nat} (h : kdC w = (0, 1, 13)) : kdC (w + 9) = (1, 30, 0) := (show ∀ w, w < NC → kdC w = (0, 1, 13) → kdC (w + 9) = (1, 30, 0) by decide +kernel) w (kdC_lt (by rw [h]; decide)) h
theorem kc_1_11 {w : Nat} (h : kdC w = (0, 1, 13)) : kdC (w + 10) = (1, 30, 0) := (show ∀ w, w < NC → kdC w = (0, 1, 13) → kdC (w + 10) = (1, 30, 0) by decide +kernel) w (kdC_lt (by rw [h]; decide)) h
theorem kc_2_0 {w : Nat} (h : kdC w = (0, 2, 2)) : kdC (w + 1) = (3, 4, 3) := (show ∀ w, w < NC → kdC w = (0, 2, 2) → kdC (w + 1) = (3, 4, 3) by decide +kernel) w (kdC_lt (by rw [h]; decide)) h
theorem kc_2_1 {w : Nat} (h : kdC w = (0, 2, 2)) : kdC (w + 6) = (1, 4, 0) := (show ∀ w, w < NC → kdC w = (0, 2, 2) → kdC (w + 6) = (1, 4, 0) by decide +kernel) w (kdC_lt (by rw [h]; decide)) h
theorem kc_3_0 {w : Nat} (h : kdC w = (0, 3, 12)) : kdC (w + 1) = (1, 242, 0) := (show ∀ w, w < NC → kdC w = (0, 3, 12) → kdC (w + 1) = (1, 242, 0) by decide +kernel) w (kdC_lt (by rw [h]; decide)) h
theorem kc_3_1 {w : Nat} (h : kdC w = (0, 3, 12)) : kdC (w + 2) = (1, 242, 0) := (show ∀ w, w < NC → kdC w = (0, 3, 12) → kdC (w + 2) = (1, 242, 0) by decide +kernel) w (kdC_lt (by rw [h]; decide)) h
theorem kc_3_2 {w : Nat} (h : kdC w = (0, 3, 12)) : kdC (w + 3) = (1, 242, 0) := (show ∀ w, w < NC → kdC w = (0, 3, 12) → kdC (w + 3) = (1, 242, 0) by decide +kernel) w (kdC_lt (by rw [h]; decide)) h
theorem kc_3_3 {w : Nat} (h : kdC w = (0, 3, 12)) : kdC (w + 4) = (1, 335, 0) := (show ∀ w, w < NC → kdC w = (0, 3, 12) → kdC (w + 4) = (1, 335, 0) by decide +kernel) w (kdC_lt (by rw [h]; decide)) h
theorem kc_3_4 {w : Nat} (h : kdC w = (0, 3, 12)) : kdC (w + 5) = (1, 335, 0) := (show ∀ w, w < NC → kdC w = (0, 3, 12) → kdC (w + 5) = (1, 335, 0) by decide +kernel) w (kdC_lt (by rw [h]; decide)) h
theorem kc_3_5 {w : Nat} (h : kdC w = (0, 3, 12)) : kdC (w + 6) = (1, 335, 0) := (show ∀ w, w < NC → kdC w = (0, 3, 12) → kdC (w + 6) = (1, 335, 0) by decide +kernel) w (kdC_lt (by rw [h]; decide)) h
theorem kc_3_6 {w : Nat} (h : kdC w = (0, 3, 12)) : kdC (w + 7) = (1, 335, 0) := (show ∀ w, w < NC → kdC w = (0, 3, 12) → kdC (w + 7) = (1, 335, 0) by decide +kernel) w (kdC_lt (by rw [h]; decide)) h
theorem kc_3_7 {w : Nat} (h : kdC w = (0, 3, 12)) : kdC (w + 8) = (1, 335, 0) := (show ∀ w, w < NC → kdC w = (0, 3, 12) → kdC (w + 8) = (1, 335, 0) by decide +kernel) w (kdC_lt (by rw [h]; decide)) h
theorem kc_6_0 {w : Nat} (h : kdC w = (0, 6, 5)) : kdC (w + 1) = (1, 30, 0) := (show ∀ w, w < NC → kdC w = (0, 6, 5) → kdC (w + 1) = (1, 30, 0) by decide +kernel) w (kdC_lt (by rw [h]; decide)) h
theorem kc_6_1 {w : Nat} (h : kdC w = (0, 6, 5)) : kdC (w + 2) = (1, 30, 0) := (show ∀ w, w < NC → kdC w = (0, 6, 5) → kdC (w + 2) = (1, 30, 0) by decide +kernel) w (kdC_lt (by rw [h]; decide)) h
theorem kc_7_0 {w : Nat} (h : kdC w = (0, 7, 7)) : kdC (w + 1) = (1, 61, 0) := (show ∀ w, w < NC → kdC w = (0, 7, 7) → kdC (w + 1) = (1, 61, 0) by decide +kernel) w (kdC_lt (by rw [h]; decide)) h
theorem kc_7_2 {w : Nat} (h : kdC w = (0, 7, 7)) : kdC (w + 2) = (0, 1, 13) := (show ∀ w, w < NC → kdC w = (0, 7, 7) → kdC (w + 2) = (0, 1, 13) by decide +kernel) w (kdC_lt (by rw [h]; decide)) h
theorem kc_7_3 {w : Nat} (h : kdC w = (0, 7, 7)) : kdC (w + 13) = (0, 3, 12) := (show ∀ w, w < NC → kdC w = (0, 7, 7) → kdC (w + 13) = (0, 3, 12) by decide +kernel) w (kdC_lt (by rw [h]; decide)) h
theorem kc_7_6 {w : Nat} (h : kdC w = (0, 7, 7)) : kdC (w + 22) = (1, 30, 0) := (show ∀ w, w < NC → kdC w = (0, 7, 7) → kdC (w + 22) = (1, 30, 0) by decide +kernel) w (kdC_lt (by rw [h]; decide)) h
theorem kc_8_0 {w : Nat} (h : kdC w = (0, 8, 14)) : kdC (w + 1) = (0, 0, 11) := (show ∀ w, w < NC → kdC w = (0, 8, 14) → kdC (w + 1) = (0, 0, 11) by decide +kernel) w (kdC_lt (by rw [h]; decide)) h
theorem kc_8_1 {w : Nat} (h : kdC w = (0, 8, 14)) : kdC (w + 41) = (0, 0, 11) := (show ∀ w, w < NC → kdC w = (0, 8, 14) → kdC (w + 41) = (0, 0, 11) by decide +kernel) w (kdC_lt (by rw [h]; decide)) h
theorem kc_8_3 {w : Nat} (h : kdC w = (0, 8, 14)) : kdC (w + 81) = (0, 5, 2) := (show ∀ w, w < NC → kdC w = (0, 8, 14) → kdC (w + 81) = (0, 5, 2) by decide +kernel) w (kdC_lt (by rw [h]; decide)) h
theorem kc_8_4 {w : Nat} (h : kdC w = (0, 8, 14)) : kdC (w + 83) = (0, 5, 2) := (show ∀ w, w < NC → kdC w = (0, 8, 14) → kdC (w + 83) = (0, 5, 2) by decide +kernel) w (kdC_lt (by rw [h]; decide)) h
theorem kc_8_5 {w : Nat} (h : kdC w = (0, 8, 14)) : kdC (w + 85) = (0, 4, 8) := (show ∀ w, w < NC → kdC w = (0, 8, 14) → kdC (w + 85) = (0, 4, 8) by decide +kernel) w (kdC_lt (by rw [h]; decide)) h
theorem kc_8_6 {w : Nat} (h : kdC w = (0, 8, 14)) : kdC (w + 86) = (0, 7, 7) := (show ∀ w, w < NC → kdC w = (0, 8, 14) → kdC (w + 86) = (0, 7, 7) by decide +kernel) w (kdC_lt (by rw [h]; decide)) h
theorem kc_8_7 {w : Nat} (h : kdC w = (0, 8, 14)) : kdC (w + 109) = (0, 7, 7) := (show ∀ w, w < NC → kdC w = (0, 8, 14) → kdC (w + 109) = (0, 7, 7) by decide +kernel) w (kdC_lt (by rw [h]; decide)) h
theorem kc_8_9 {w : Nat} (h : kdC w = (0, 8, 14)) : kdC (w + 132) = (1, 60, 0) := (show ∀ w, w < NC → kdC w = (0, 8, 14) → kdC (w + 132) = (1, 60, 0) by decide +kernel) w (kdC_lt (by rw [h]; decide)) h
theorem kc_8_12 {w : Nat} (h : kdC w = (0, 8, 14)) : kdC (w + 133) = (0, 6, 5) := (show ∀ w, w < NC → kdC w = (0, 8, 14) → kdC (w + 133) = (0, 6, 5) by decide +kernel) w (kdC_lt (by rw [h]; decide)) h
theorem kc_8_13 {w : Nat} (h : kdC w = (0, 8, 14)) : kdC (w + 136) = (0, 2, 2) := (show ∀ w, w < NC → kdC w = (0, 8, 14) → kdC (w + 136) = (0, 2, 2) by decide +kernel) w (kdC_lt (by rw [h]; decide)) h
/-- how many bytes a text has room for -/
def klT (t : Nat) : Nat := (kdC (t + 1)).2.1
theorem kc_5_0 {t : Nat} (h : kdC t = (0, 5, 2)) : kdC (t + 1) = (2, klT t, 0) := (show ∀ t, t < NC → kdC t = (0, 5, 2) → kdC (t + 1) = (2, klT t, 0) by decide +kernel) t (kdC_lt (by rw [h]; decide)) h
theorem klT_le {t : Nat} (h : kdC t = (0, 5, 2)) : klT t ≤ 2147483648 := (show ∀ t, t < NC → kdC t = (0, 5, 2) → klT t ≤ 2147483648 by decide +kernel) t (kdC_lt (by rw [h]; decide)) h
theorem kc_r2 {c i : Nat} (h : kdC c = (3, 30, 2)) (hi : i < 30) : kdC (c + 1 + i) = (2, 7, 0) := (show ∀ c, c < NC → kdC c = (3, 30, 2) → ∀ i, i < 30 → kdC (c + 1 + i) = (2, 7, 0) by decide +kernel) c (kdC_lt (by rw [h]; decide)) h i hi
theorem kc_r3 {c i : Nat} (h : kdC c = (3, 4, 3)) (hi : i < 4) : kdC (c + 1 + i) = (1, 40, 0) := (show ∀ c, c < NC → kdC c = (3, 4, 3) → ∀ i, i < 4 → kdC (c + 1 + i) = (1, 40, 0) by decide +kernel) c (kdC_lt (by rw [h]; decide)) h i hi
end
section
/-! kinds: (0, class's place, fields) an object; (1, n, _) ints; (2, n, _) bytes; (3, n, place of its class) rows of references to the n cells behind it; (9, _, _) none -/
/-- where the cell stands that a reference field names, counted from its object; 0: the field is a number -/
def kro (ci j : Nat) : Nat := ((kroL.getD ci []).getD j 0)
def kval (ad : Nat → Nat) (z : Hp) (c ci j : Nat) : Value := if kro ci j = 0 then .int (Int32.ofInt (z c j)) else .ref (ad (c + kro ci j))
def kcell (kd : Nat → Nat × Nat × Nat) (cA : Nat → ClassId) (ad : Nat → Nat) (z : Hp) (c : Nat) : va_E :=
  if (kd c).1 = 0 then .inr ((kd c).2.1, (List.range (kd c).2.2).map (kval ad z c (kd c).2.1))
  else if (kd c).1 = 1 then .inl (cA 0, (kd c).2.1, .inl (fun j => Int32.ofInt (z c j)))
  else if (kd c).1 = 2 then .inl (cA 1, (kd c).2.1, .inl (fun j => Int32.ofInt (z c j)))
  else .inl (cA (kd c).2.2, (kd c).2.1, .inr (.inr (.inr (.inr (fun j => some (ad (c + 1 + j)))))))
def kW (N : Nat) (kd : Nat → Nat × Nat × Nat) (cA : Nat → ClassId) (ad : Nat → Nat) (z : Hp) : va_W := (List.range N).map (fun c => (ad c, kcell kd cA ad z c))
theorem kW_get {N : Nat} {kd : Nat → Nat × Nat × Nat} {cA : Nat → ClassId} {ad : Nat → Nat} {z : Hp} {c : Nat} (h : c < N) : (kW N kd cA ad z)[c]? = some (ad c, kcell kd cA ad z c) := by
  unfold kW
  rw [List.getElem?_map, List.getElem?_range h]
  rfl
theorem kW_set {N : Nat} {kd : Nat → Nat × Nat × Nat} {cA : Nat → ClassId} {ad : Nat → Nat} {z z' : Hp} {c : Nat} {e : va_E} (h : c < N) (h1 : kcell kd cA ad z' c = e) (h2 : ∀ b, b ≠ c → kcell kd cA ad z' b = kcell kd cA ad z b) : (kW N kd cA ad z).set c (ad c, e) = kW N kd cA ad z' := by
  apply List.ext_getElem?
  intro i
  by_cases hi : i < N
  · rw [kW_get (z := z') hi]
    by_cases hc : c = i
    · subst hc
      rw [List.getElem?_set_self (by simpa [kW] using h), h1]
    · rw [List.getElem?_set_ne hc, kW_get hi, h2 i (fun q => hc q.symm)]
  · rw [List.getElem?_eq_none (by simpa [kW] using hi), List.getElem?_eq_none (by simpa [kW] using hi)]
def kTys (cA : Nat → ClassId) : List (ClassId × FieldType) := [(cA 0, .int), (cA 1, .byte), (cA 2, .array .byte), (cA 3, .array .int)]
def kPic (N : Nat) (kd : Nat → Nat × Nat × Nat) (D : va_G) (cA : Nat → ClassId) (ad : Nat → Nat) (z : Hp) (H : Heap) : Prop := va_P D vwCl (kW N kd cA ad z) H
/-- the addresses of the cells -/
def kA (N : Nat) (ad : Nat → Nat) : Nat → Prop := fun q => ∃ c, c < N ∧ q = ad c
def kInj (N : Nat) (ad : Nat → Nat) : Prop := ∀ i j, i < N → j < N → ad i = ad j → i = j
def kLt (N : Nat) (kd : Nat → Nat × Nat × Nat) : Prop := ∀ c, (kd c).1 ≠ 9 → c < N
theorem kne {a n u : Nat} (h : a ≠ 9) : ((a, n, u) : Nat × Nat × Nat).1 ≠ 9 := h
theorem kD {N : Nat} {kd : Nat → Nat × Nat × Nat} {cA : Nat → ClassId} {ad : Nat → Nat} (h : kInj N ad) (z : Hp) : va_D (kA N ad) (kW N kd cA ad z) := by
  have lt : ∀ (i : Nat) (p : Nat × va_E), (kW N kd cA ad z)[i]? = some p → i < N := fun i p h => by
    have := (List.getElem?_eq_some_iff.mp h).1
    simpa [kW] using this
  refine ⟨fun i j p q hi hj e => ?_, fun i p hi => ?_⟩
  · have li := lt i p hi
    have lj := lt j q hj
    rw [kW_get li] at hi
    rw [kW_get lj] at hj
    cases hi
    cases hj
    exact h i j li lj e
  · have li := lt i p hi
    rw [kW_get li] at hi
    cases hi
    exact ⟨i, li, rfl⟩
/-- text constants, by their places: address, bytes -/
def kStr (q : Nat) (tx : List Int) (A : Nat → Prop) (U : State) (H : Heap) : Prop := va_O "java/lang/String" q A U H ∧ va_OF "java/lang/String" "coder" "B" (.int 0) q A U H ∧ ∃ v : Nat, va_OF "java/lang/String" "value" "[B" (.ref v) q A U H ∧ va_T .byte v tx.length (fun j => kI (tx.getD j 0)) A U H
theorem kStr.moved {q : Nat} {tx : List Int} {A : Nat → Prop} {u U : State} {H : Heap} (hvm : u.vm.Alike U.vm) (h : kStr q tx A u H) : kStr q tx A U H := by
  obtain ⟨h1, h2, v, h3, h4⟩ := h
  exact ⟨h1.moved hvm, h2.moved hvm, v, h3.moved hvm, h4.moved hvm⟩
theorem kStr.kept {q : Nat} {tx : List Int} {A : Nat → Prop} {U : State} {H H1 : Heap} (h : kStr q tx A U H) (hq : ∀ a : Nat, a < H.size → ¬ A a → H1[a]? = H[a]?) : kStr q tx A U H1 := by
  obtain ⟨h1, h2, v, h3, h4⟩ := h
  exact ⟨h1.kept hq, h2.kept hq, v, h3.kept hq, h4.kept hq⟩
theorem kStr.narrow {q : Nat} {tx : List Int} {A B : Nat → Prop} {U : State} {H : Heap} (h : kStr q tx A U H) (hAB : ∀ q, B q → A q) : kStr q tx B U H := by
  obtain ⟨h1, h2, v, h3, h4⟩ := h
  exact ⟨h1.narrow hAB, h2.narrow hAB, v, h3.narrow hAB, h4.narrow hAB⟩
/-- what stands still: texts, the letters of the statements' sorts, the JDK's own statics -/
def kEnv (A : Nat → Prop) (sa : Nat → Nat) (U : State) (H : Heap) : Prop :=
  (∀ k, k < kstrL.length → kStr (sa k) ((kstrL.getD k ("", 0, "", [])).2.2.2) A U H ∧ vk_R (kstrL.getD k ("", 0, "", [])).1 (kstrL.getD k ("", 0, "", [])).2.1 (kstrL.getD k ("", 0, "", [])).2.2.1 (sa k) U) ∧
  (∃ t : Nat, va_Z "KinProver$Reader" "LETTERS" "[C" (.ref t) A U H ∧ va_T .char t 8 (fun j => kI (kletL.getD j 0)) A U H) ∧
  va_Z "java/lang/String" "COMPACT_STRINGS" "Z" (.int 1) A U H
theorem kEnv.moved {A : Nat → Prop} {sa : Nat → Nat} {u U : State} {H : Heap} (hW : u.WarmedH U.vm) (h : kEnv A sa u H) : kEnv A sa U H := by
  obtain ⟨h1, ⟨t, h2, h3⟩, h4⟩ := h
  exact ⟨fun k hk => ⟨(h1 k hk).1.moved hW.alike, (h1 k hk).2.warm hW⟩, ⟨t, h2.moved hW.alike, h3.moved hW.alike⟩, h4.moved hW.alike⟩
theorem kEnv.kept {A : Nat → Prop} {sa : Nat → Nat} {U : State} {H H1 : Heap} (h : kEnv A sa U H) (hq : ∀ a : Nat, a < H.size → ¬ A a → H1[a]? = H[a]?) : kEnv A sa U H1 := by
  obtain ⟨h1, ⟨t, h2, h3⟩, h4⟩ := h
  exact ⟨fun k hk => ⟨(h1 k hk).1.kept hq, (h1 k hk).2⟩, ⟨t, h2.kept hq, h3.kept hq⟩, h4.kept hq⟩
def kR (d : Nat) : Room := { frames := d, cells := 0, slots := 0, locals := 64 * d }
/-- what a walk stands on -/
def kCx (p : Program) (R : Room) (s : State) (m : MethodId) (args : Array Value) (c : Code) (cc : ByteArray) (own : String) (nL N : Nat) (kd : Nat → Nat × Nat × Nat) (D : va_G) (cA : Nat → ClassId) (ad sa : Nat → Nat) : Prop :=
  p.tables.exec = Jvm.exec ∧ c.code = cc ∧ c.maxLocals = nL ∧ s.vm.findClass own = some m.cls ∧ (∀ w ∈ GW, w.before args s = true) ∧ va_K D vwCl (kTys cA) s ∧ kInj N ad ∧ kLt N kd ∧ kEnv (kA N ad) sa s s.heap
section KC
variable {p : Program} {l : Launch} {e : Env} {R : Room} {s : State} {m : MethodId} {args : Array Value} {below : List Frame} {meth : Method} {c : Code} {Q : State → Prop}
variable {cc : ByteArray} {own : String} {nL N : Nat} {kd : Nat → Nat × Nat × Nat} {D : va_G} {cA : Nat → ClassId} {ad sa : Nat → Nat}
variable {pc : Nat} {lv : List (Nat × Value)} {st : List Value} {z : Hp}
def kAt (p : Program) (l : Launch) (e : Env) (R : Room) (s : State) (m : MethodId) (args : Array Value) (below : List Frame) (meth : Method) (c : Code) (Q : State → Prop) (nL N : Nat) (kd : Nat → Nat × Nat × Nat) (D : va_G) (cA : Nat → ClassId) (ad : Nat → Nat) (pc : Nat) (lv : List (Nat × Value)) (st : List Value) (z : Hp) : Prop :=
  ∀ (H : Heap) (locs : List Loc) (ls : Array Slot), kPic N kd D cA ad z H → va_S (kA N ad) s.heap H locs → lv_has ls nL lv → W p l e R s m args below meth c H locs 0 0 Q (F0 m pc ls st)
theorem k_sub {lv' : List (Nat × Value)} (ks : List Nat) (h : lv_pick lv ks = lv') (kk : kAt p l e R s m args below meth c Q nL N kd D cA ad pc lv' st z) : kAt p l e R s m args below meth c Q nL N kd D cA ad pc lv st z := fun H locs ls hP hS hl => kk H locs ls hP hS (lv_sub hl ks h)
theorem k_iload_n (X : kCx p R s m args c cc own nL N kd D cA ad sa) {k : Fin 4} {x : Int} (d : decode cc pc = .ok (.iload_n k, 1)) (i : Nat) (hk : lv[i]? = some ((k : Nat), kI x)) (kk : kAt p l e R s m args below meth c Q nL N kd D cA ad (pc + 1) lv (kI x :: st) z) : kAt p l e R s m args below meth c Q nL N kd D cA ad pc lv st z := fun H locs ls hP hS hl => lv_iload_n X.1 X.2.1 d rfl (lv_at hl i hk) (kk H locs ls hP hS hl)
theorem k_iload (X : kCx p R s m args c cc own nL N kd D cA ad sa) {k : Nat} {x : Int} (d : decode cc pc = .ok (.iload k, 2)) (i : Nat) (hk : lv[i]? = some (k, kI x)) (kk : kAt p l e R s m args below meth c Q nL N kd D cA ad (pc + 2) lv (kI x :: st) z) : kAt p l e R s m args below meth c Q nL N kd D cA ad pc lv st z := fun H locs ls hP hS hl => lv_iload X.1 X.2.1 d (lv_at hl i hk) (kk H locs ls hP hS hl)
theorem k_aload_n (X : kCx p R s m args c cc own nL N kd D cA ad sa) {k : Fin 4} {x : Nat} (d : decode cc pc = .ok (.aload_n k, 1)) (i : Nat) (hk : lv[i]? = some ((k : Nat), .ref x)) (kk : kAt p l e R s m args below meth c Q nL N kd D cA ad (pc + 1) lv (.ref x :: st) z) : kAt p l e R s m args below meth c Q nL N kd D cA ad pc lv st z := fun H locs ls hP hS hl => lv_aload_n X.1 X.2.1 d rfl (lv_at hl i hk) (kk H locs ls hP hS hl)
theorem k_aload (X : kCx p R s m args c cc own nL N kd D cA ad sa) {k : Nat} {x : Nat} (d : decode cc pc = .ok (.aload k, 2)) (i : Nat) (hk : lv[i]? = some (k, .ref x)) (kk : kAt p l e R s m args below meth c Q nL N kd D cA ad (pc + 2) lv (.ref x :: st) z) : kAt p l e R s m args below meth c Q nL N kd D cA ad pc lv st z := fun H locs ls hP hS hl => lv_aload X.1 X.2.1 d (lv_at hl i hk) (kk H locs ls hP hS hl)
theorem k_istore_n (X : kCx p R s m args c cc own nL N kd D cA ad sa) {k : Fin 4} {x : Int} {P : Int → Prop} (d : decode cc pc = .ok (.istore_n k, 1)) (h : lt1 x P) (lv' : Int → List (Nat × Value)) (hn : (k : Nat) < nL) (hl' : ∀ y, ((k : Nat), kI y) :: lv.filter (fun q => !(q.1 == (k : Nat)) && !(q.1 + 1 == (k : Nat) && q.2.category == 2)) = lv' y) (kk : ∀ y, P y → kAt p l e R s m args below meth c Q nL N kd D cA ad (pc + 1) (lv' y) st z) : kAt p l e R s m args below meth c Q nL N kd D cA ad pc lv (kI x :: st) z := fun H locs ls hP hS hl => lv_istore_n X.1 X.2.1 d rfl hl hn (hl' x) (fun ls' hl2 => kk x h H locs ls' hP hS hl2)
theorem k_istore (X : kCx p R s m args c cc own nL N kd D cA ad sa) {k : Nat} {x : Int} {P : Int → Prop} (d : decode cc pc = .ok (.istore k, 2)) (h : lt1 x P) (lv' : Int → List (Nat × Value)) (hn : k < nL) (hl' : ∀ y, (k, kI y) :: lv.filter (fun q => !(q.1 == k) && !(q.1 + 1 == k && q.2.category == 2)) = lv' y) (kk : ∀ y, P y → kAt p l e R s m args below meth c Q nL N kd D cA ad (pc + 2) (lv' y) st z) : kAt p l e R s m args below meth c Q nL N kd D cA ad pc lv (kI x :: st) z := fun H locs ls hP hS hl => lv_istore X.1 X.2.1 d hl hn (hl' x) (fun ls' hl2 => kk x h H locs ls' hP hS hl2)
theorem k_astore_n (X : kCx p R s m args c cc own nL N kd D cA ad sa) {k : Fin 4} {x : Nat} {lv' : List (Nat × Value)} (d : decode cc pc = .ok (.astore_n k, 1)) (hn : (k : Nat) < nL) (hl' : ((k : Nat), Value.ref x) :: lv.filter (fun q => !(q.1 == (k : Nat)) && !(q.1 + 1 == (k : Nat) && q.2.category == 2)) = lv') (kk : kAt p l e R s m args below meth c Q nL N kd D cA ad (pc + 1) lv' st z) : kAt p l e R s m args below meth c Q nL N kd D cA ad pc lv (.ref x :: st) z := fun H locs ls hP hS hl => lv_astore_n X.1 X.2.1 d rfl hl hn hl' (fun ls' hl2 => kk H locs ls' hP hS hl2)
theorem k_iinc (X : kCx p R s m args c cc own nL N kd D cA ad sa) {k : Nat} {n x : Int} {P : Int → Prop} (d : decode cc pc = .ok (.iinc k n, 3)) (i : Nat) (hk : lv[i]? = some (k, kI x)) (h : lt1 (x + n) P) (lv' : Int → List (Nat × Value)) (hn : k < nL) (hl' : ∀ y, (k, kI y) :: lv.filter (fun q => !(q.1 == k) && !(q.1 + 1 == k && q.2.category == 2)) = lv' y) (kk : ∀ y, P y → kAt p l e R s m args below meth c Q nL N kd D cA ad (pc + 3) (lv' y) st z) : kAt p l e R s m args below meth c Q nL N kd D cA ad pc lv st z := fun H locs ls hP hS hl => lv_iinc X.1 X.2.1 d hl hk (kI_add x n) hn (hl' (x + n)) (fun ls' hl2 => kk (x + n) h H locs ls' hP hS hl2)
theorem k_iconst (X : kCx p R s m args c cc own nL N kd D cA ad sa) {n : Int} (d : decode cc pc = .ok (.iconst n, 1)) (kk : kAt p l e R s m args below meth c Q nL N kd D cA ad (pc + 1) lv (kI n :: st) z) : kAt p l e R s m args below meth c Q nL N kd D cA ad pc lv st z := fun H locs ls hP hS hl => lv_iconst X.1 X.2.1 d rfl (kk H locs ls hP hS hl)
theorem k_bipush (X : kCx p R s m args c cc own nL N kd D cA ad sa) {n : Int} (d : decode cc pc = .ok (.bipush n, 2)) (hv : (Int8.ofInt n).toInt32 = Int32.ofInt n) (kk : kAt p l e R s m args below meth c Q nL N kd D cA ad (pc + 2) lv (kI n :: st) z) : kAt p l e R s m args below meth c Q nL N kd D cA ad pc lv st z := fun H locs ls hP hS hl => lv_bipush X.1 X.2.1 d hv (kk H locs ls hP hS hl)
theorem k_sipush (X : kCx p R s m args c cc own nL N kd D cA ad sa) {n : Int} (d : decode cc pc = .ok (.sipush n, 3)) (hv : (Int16.ofInt n).toInt32 = Int32.ofInt n) (kk : kAt p l e R s m args below meth c Q nL N kd D cA ad (pc + 3) lv (kI n :: st) z) : kAt p l e R s m args below meth c Q nL N kd D cA ad pc lv st z := fun H locs ls hP hS hl => lv_sipush X.1 X.2.1 d hv (kk H locs ls hP hS hl)
theorem k_ldcw (X : kCx p R s m args c cc own nL N kd D cA ad sa) {i : Nat} (n : Int) (hw : Cond.constant own i (Int32.ofInt n) ∈ GW) (d : decode cc pc = .ok (.ldc_w i, 3)) (kk : kAt p l e R s m args below meth c Q nL N kd D cA ad (pc + 3) lv (kI n :: st) z) : kAt p l e R s m args below meth c Q nL N kd D cA ad pc lv st z := fun H locs ls hP hS hl => lv_ldcw X.1 X.2.1 X.2.2.2.1 (X.2.2.2.2.1 _ hw) d (kk H locs ls hP hS hl)
theorem k_ldc (X : kCx p R s m args c cc own nL N kd D cA ad sa) {i : Nat} (n : Int) (hw : Cond.constant own i (Int32.ofInt n) ∈ GW) (d : decode cc pc = .ok (.ldc i, 2)) (kk : kAt p l e R s m args below meth c Q nL N kd D cA ad (pc + 2) lv (kI n :: st) z) : kAt p l e R s m args below meth c Q nL N kd D cA ad pc lv st z := fun H locs ls hP hS hl => lv_ldc X.1 X.2.1 X.2.2.2.1 (X.2.2.2.2.1 _ hw) d (kk H locs ls hP hS hl)
theorem k_ldc2 (X : kCx p R s m args c cc own nL N kd D cA ad sa) {i : Nat} (n : Int) (hw : Cond.constantLong own i (Int64.ofInt n) ∈ GW) (d : decode cc pc = .ok (.ldc2_w i, 3)) (kk : kAt p l e R s m args below meth c Q nL N kd D cA ad (pc + 3) lv (kL n :: st) z) : kAt p l e R s m args below meth c Q nL N kd D cA ad pc lv st z := fun H locs ls hP hS hl => lv_ldc2 X.1 X.2.1 X.2.2.2.1 (X.2.2.2.2.1 _ hw) d (kk H locs ls hP hS hl)
theorem k_iadd (X : kCx p R s m args c cc own nL N kd D cA ad sa) {x y : Int} (d : decode cc pc = .ok (.iadd, 1)) (kk : kAt p l e R s m args below meth c Q nL N kd D cA ad (pc + 1) lv (kI (x + y) :: st) z) : kAt p l e R s m args below meth c Q nL N kd D cA ad pc lv (kI y :: kI x :: st) z := fun H locs ls hP hS hl => lv_iadd X.1 X.2.1 d (by rw [kI_add]; exact kk H locs ls hP hS hl)
theorem k_isub (X : kCx p R s m args c cc own nL N kd D cA ad sa) {x y : Int} (d : decode cc pc = .ok (.isub, 1)) (kk : kAt p l e R s m args below meth c Q nL N kd D cA ad (pc + 1) lv (kI (x - y) :: st) z) : kAt p l e R s m args below meth c Q nL N kd D cA ad pc lv (kI y :: kI x :: st) z := fun H locs ls hP hS hl => lv_isub X.1 X.2.1 d (by rw [kI_sub]; exact kk H locs ls hP hS hl)
theorem k_imul (X : kCx p R s m args c cc own nL N kd D cA ad sa) {x y : Int} (d : decode cc pc = .ok (.imul, 1)) (kk : kAt p l e R s m args below meth c Q nL N kd D cA ad (pc + 1) lv (kI (x * y) :: st) z) : kAt p l e R s m args below meth c Q nL N kd D cA ad pc lv (kI y :: kI x :: st) z := fun H locs ls hP hS hl => lv_imul X.1 X.2.1 d (by rw [kI_mul]; exact kk H locs ls hP hS hl)
theorem k_idiv (X : kCx p R s m args c cc own nL N kd D cA ad sa) {x y : Int} {P : Prop} (d : decode cc pc = .ok (.idiv, 1)) (hy : 0 < y ∧ y ≤ 2147483647) (h : nn x ∧ P) (kk : P → kAt p l e R s m args below meth c Q nL N kd D cA ad (pc + 1) lv (kI (x / y) :: st) z) : kAt p l e R s m args below meth c Q nL N kd D cA ad pc lv (kI y :: kI x :: st) z := fun H locs ls hP hS hl => lv_idiv X.1 X.2.1 d (fun q => by have := (kI_eq ⟨by have := hy.1; omega, hy.2⟩ rg0).mp q; have := hy.1; omega) (by rw [kI_div h.1 hy]; exact kk h.2 H locs ls hP hS hl)
theorem k_irem (X : kCx p R s m args c cc own nL N kd D cA ad sa) {x y : Int} {P : Prop} (d : decode cc pc = .ok (.irem, 1)) (hy : 0 < y ∧ y ≤ 2147483647) (h : nn x ∧ P) (kk : P → kAt p l e R s m args below meth c Q nL N kd D cA ad (pc + 1) lv (kI (x % y) :: st) z) : kAt p l e R s m args below meth c Q nL N kd D cA ad pc lv (kI y :: kI x :: st) z := fun H locs ls hP hS hl => lv_irem X.1 X.2.1 d (fun q => by have := (kI_eq ⟨by have := hy.1; omega, hy.2⟩ rg0).mp q; have := hy.1; omega) (by rw [kI_rem h.1 hy]; exact kk h.2 H locs ls hP hS hl)
theorem k_iand (X : kCx p R s m args c cc own nL N kd D cA ad sa) {x y : Int} (d : decode cc pc = .ok (.iand, 1)) (kk : kAt p l e R s m args below meth c Q nL N kd D cA ad (pc + 1) lv (kI (iand x y) :: st) z) : kAt p l e R s m args below meth c Q nL N kd D cA ad pc lv (kI y :: kI x :: st) z := fun H locs ls hP hS hl => lv_iand X.1 X.2.1 d (by rw [← kI_and]; exact kk H locs ls hP hS hl)
theorem k_ior (X : kCx p R s m args c cc own nL N kd D cA ad sa) {x y : Int} (d : decode cc pc = .ok (.ior, 1)) (kk : kAt p l e R s m args below meth c Q nL N kd D cA ad (pc + 1) lv (kI (ior x y) :: st) z) : kAt p l e R s m args below meth c Q nL N kd D cA ad pc lv (kI y :: kI x :: st) z := fun H locs ls hP hS hl => lv_ior X.1 X.2.1 d (by rw [← kI_or]; exact kk H locs ls hP hS hl)
theorem k_ishl (X : kCx p R s m args c cc own nL N kd D cA ad sa) {x y : Int} (d : decode cc pc = .ok (.ishl, 1)) (kk : kAt p l e R s m args below meth c Q nL N kd D cA ad (pc + 1) lv (kI (ishl x y) :: st) z) : kAt p l e R s m args below meth c Q nL N kd D cA ad pc lv (kI y :: kI x :: st) z := fun H locs ls hP hS hl => lv_ishl X.1 X.2.1 d (by rw [← kI_shl]; exact kk H locs ls hP hS hl)
theorem k_ishr (X : kCx p R s m args c cc own nL N kd D cA ad sa) {x y : Int} (d : decode cc pc = .ok (.ishr, 1)) (kk : kAt p l e R s m args below meth c Q nL N kd D cA ad (pc + 1) lv (kI (ishr x y) :: st) z) : kAt p l e R s m args below meth c Q nL N kd D cA ad pc lv (kI y :: kI x :: st) z := fun H locs ls hP hS hl => lv_ishr X.1 X.2.1 d (by rw [← kI_shr]; exact kk H locs ls hP hS hl)
theorem k_iushr (X : kCx p R s m args c cc own nL N kd D cA ad sa) {x y : Int} (d : decode cc pc = .ok (.iushr, 1)) (kk : kAt p l e R s m args below meth c Q nL N kd D cA ad (pc + 1) lv (kI (iushr x y) :: st) z) : kAt p l e R s m args below meth c Q nL N kd D cA ad pc lv (kI y :: kI x :: st) z := fun H locs ls hP hS hl => lv_iushr X.1 X.2.1 d (kI_ushr x y).symm (kk H locs ls hP hS hl)
theorem k_dup (X : kCx p R s m args c cc own nL N kd D cA ad sa) {v : Value} (d : decode cc pc = .ok (.dup, 1)) (hv : v.category = 1) (kk : kAt p l e R s m args below meth c Q nL N kd D cA ad (pc + 1) lv (v :: v :: st) z) : kAt p l e R s m args below meth c Q nL N kd D cA ad pc lv (v :: st) z := fun H locs ls hP hS hl => lv_dup X.1 X.2.1 d hv (kk H locs ls hP hS hl)
theorem k_dup2 (X : kCx p R s m args c cc own nL N kd D cA ad sa) {v w : Value} (d : decode cc pc = .ok (.dup2, 1)) (hv : v.category = 1) (hw : w.category = 1) (kk : kAt p l e R s m args below meth c Q nL N kd D cA ad (pc + 1) lv (v :: w :: v :: w :: st) z) : kAt p l e R s m args below meth c Q nL N kd D cA ad pc lv (v :: w :: st) z := fun H locs ls hP hS hl => lv_dup2_11 X.1 X.2.1 d hv hw (kk H locs ls hP hS hl)
theorem k_pop (X : kCx p R s m args c cc own nL N kd D cA ad sa) {v : Value} (d : decode cc pc = .ok (.pop, 1)) (hv : v.category = 1) (kk : kAt p l e R s m args below meth c Q nL N kd D cA ad (pc + 1) lv st z) : kAt p l e R s m args below meth c Q nL N kd D cA ad pc lv (v :: st) z := fun H locs ls hP hS hl => lv_pop X.1 X.2.1 d hv (kk H locs ls hP hS hl)
theorem k_i2b (X : kCx p R s m args c cc own nL N kd D cA ad sa) {x : Int} {P : Prop} (d : decode cc pc = .ok (.i2b, 1)) (h : by8 x ∧ P) (kk : P → kAt p l e R s m args below meth c Q nL N kd D cA ad (pc + 1) lv (kI x :: st) z) : kAt p l e R s m args below meth c Q nL N kd D cA ad pc lv (kI x :: st) z := fun H locs ls hP hS hl => lv_i2b X.1 X.2.1 d (kI_i2b h.1) (kk h.2 H locs ls hP hS hl)
theorem k_i2l (X : kCx p R s m args c cc own nL N kd D cA ad sa) {x : Int} {P : Prop} (d : decode cc pc = .ok (.i2l, 1)) (h : rg x ∧ P) (kk : P → kAt p l e R s m args below meth c Q nL N kd D cA ad (pc + 1) lv (kL x :: st) z) : kAt p l e R s m args below meth c Q nL N kd D cA ad pc lv (kI x :: st) z := fun H locs ls hP hS hl => lv_i2l X.1 X.2.1 d (kI_i2l h.1) (kk h.2 H locs ls hP hS hl)
theorem k_goto (X : kCx p R s m args c cc own nL N kd D cA ad sa) {off : Int} {tgt : Nat} (d : decode cc pc = .ok (.goto off, 3)) (ht : (pc : Int) + off = (tgt : Int)) (kk : kAt p l e R s m args below meth c Q nL N kd D cA ad tgt lv st z) : kAt p l e R s m args below meth c Q nL N kd D cA ad pc lv st z := fun H locs ls hP hS hl => lv_goto X.1 X.2.1 d ht (kk H locs ls hP hS hl)
theorem k_icmp_eq (X : kCx p R s m args c cc own nL N kd D cA ad sa) {x y : Int} {PT PF : Prop} {off : Int} {tgt : Nat} (d : decode cc pc = .ok (.if_icmp .eq off, 3)) (ht : (pc : Int) + off = (tgt : Int)) (h : rg x ∧ rg y ∧ if x = y then PT else PF) (kt : PT → kAt p l e R s m args below meth c Q nL N kd D cA ad tgt lv st z) (kf : PF → kAt p l e R s m args below meth c Q nL N kd D cA ad (pc + 3) lv st z) : kAt p l e R s m args below meth c Q nL N kd D cA ad pc lv (kI y :: kI x :: st) z := fun H locs ls hP hS hl => lv_icmp_eq X.1 X.2.1 d ht (fun q => kt (by have h3 := h.2.2; rwa [if_pos ((kI_eq h.1 h.2.1).mp q)] at h3) H locs ls hP hS hl) (fun q => kf (by have h3 := h.2.2; rwa [if_neg (fun g => q ((kI_eq h.1 h.2.1).mpr g))] at h3) H locs ls hP hS hl)
theorem k_icmp_ne (X : kCx p R s m args c cc own nL N kd D cA ad sa) {x y : Int} {PT PF : Prop} {off : Int} {tgt : Nat} (d : decode cc pc = .ok (.if_icmp .ne off, 3)) (ht : (pc : Int) + off = (tgt : Int)) (h : rg x ∧ rg y ∧ if x = y then PF else PT) (kt : PT → kAt p l e R s m args below meth c Q nL N kd D cA ad tgt lv st z) (kf : PF → kAt p l e R s m args below meth c Q nL N kd D cA ad (pc + 3) lv st z) : kAt p l e R s m args below meth c Q nL N kd D cA ad pc lv (kI y :: kI x :: st) z := fun H locs ls hP hS hl => lv_icmp_ne X.1 X.2.1 d ht (fun q => kt (by have h3 := h.2.2; rwa [if_neg (fun g => q ((kI_eq h.1 h.2.1).mpr g))] at h3) H locs ls hP hS hl) (fun q => kf (by have h3 := h.2.2; rwa [if_pos ((kI_eq h.1 h.2.1).mp q)] at h3) H locs ls hP hS hl)
theorem k_icmp_lt (X : kCx p R s m args c cc own nL N kd D cA ad sa) {x y : Int} {PT PF : Prop} {off : Int} {tgt : Nat} (d : decode cc pc = .ok (.if_icmp .lt off, 3)) (ht : (pc : Int) + off = (tgt : Int)) (h : rg x ∧ rg y ∧ if x < y then PT else PF) (kt : PT → kAt p l e R s m args below meth c Q nL N kd D cA ad tgt lv st z) (kf : PF → kAt p l e R s m args below meth c Q nL N kd D cA ad (pc + 3) lv st z) : kAt p l e R s m args below meth c Q nL N kd D cA ad pc lv (kI y :: kI x :: st) z := fun H locs ls hP hS hl => lv_icmp_lt X.1 X.2.1 d ht (fun q => kt (by have h3 := h.2.2; rwa [if_pos ((kI_lt h.1 h.2.1).mp q)] at h3) H locs ls hP hS hl) (fun q => kf (by have h3 := h.2.2; rwa [if_neg (fun g => q ((kI_lt h.1 h.2.1).mpr g))] at h3) H locs ls hP hS hl)
theorem k_icmp_le (X : kCx p R s m args c cc own nL N kd D cA ad sa) {x y : Int} {PT PF : Prop} {off : Int} {tgt : Nat} (d : decode cc pc = .ok (.if_icmp .le off, 3)) (ht : (pc : Int) + off = (tgt : Int)) (h : rg x ∧ rg y ∧ if x ≤ y then PT else PF) (kt : PT → kAt p l e R s m args below meth c Q nL N kd D cA ad tgt lv st z) (kf : PF → kAt p l e R s m args below meth c Q nL N kd D cA ad (pc + 3) lv st z) : kAt p l e R s m args below meth c Q nL N kd D cA ad pc lv (kI y :: kI x :: st) z := fun H locs ls hP hS hl => lv_icmp_le X.1 X.2.1 d ht (fun q => kt (by have h3 := h.2.2; rwa [if_pos ((kI_le h.1 h.2.1).mp q)] at h3) H locs ls hP hS hl) (fun q => kf (by have h3 := h.2.2; rwa [if_neg (fun g => q ((kI_le h.1 h.2.1).mpr g))] at h3) H locs ls hP hS hl)
theorem k_icmp_gt (X : kCx p R s m args c cc own nL N kd D cA ad sa) {x y : Int} {PT PF : Prop} {off : Int} {tgt : Nat} (d : decode cc pc = .ok (.if_icmp .gt off, 3)) (ht : (pc : Int) + off = (tgt : Int)) (h : rg x ∧ rg y ∧ if y < x then PT else PF) (kt : PT → kAt p l e R s m args below meth c Q nL N kd D cA ad tgt lv st z) (kf : PF → kAt p l e R s m args below meth c Q nL N kd D cA ad (pc + 3) lv st z) : kAt p l e R s m args below meth c Q nL N kd D cA ad pc lv (kI y :: kI x :: st) z := fun H locs ls hP hS hl => lv_icmp_gt X.1 X.2.1 d ht (fun q => kt (by have h3 := h.2.2; rwa [if_pos ((kI_lt h.2.1 h.1).mp q)] at h3) H locs ls hP hS hl) (fun q => kf (by have h3 := h.2.2; rwa [if_neg (fun g => q ((kI_lt h.2.1 h.1).mpr g))] at h3) H locs ls hP hS hl)
theorem k_icmp_ge (X : kCx p R s m args c cc own nL N kd D cA ad sa) {x y : Int} {PT PF : Prop} {off : Int} {tgt : Nat} (d : decode cc pc = .ok (.if_icmp .ge off, 3)) (ht : (pc : Int) + off = (tgt : Int)) (h : rg x ∧ rg y ∧ if y ≤ x then PT else PF) (kt : PT → kAt p l e R s m args below meth c Q nL N kd D cA ad tgt lv st z) (kf : PF → kAt p l e R s m args below meth c Q nL N kd D cA ad (pc + 3) lv st z) : kAt p l e R s m args below meth c Q nL N kd D cA ad pc lv (kI y :: kI x :: st) z := fun H locs ls hP hS hl => lv_icmp_ge X.1 X.2.1 d ht (fun q => kt (by have h3 := h.2.2; rwa [if_pos ((kI_le h.2.1 h.1).mp q)] at h3) H locs ls hP hS hl) (fun q => kf (by have h3 := h.2.2; rwa [if_neg (fun g => q ((kI_le h.2.1 h.1).mpr g))] at h3) H locs ls hP hS hl)
theorem k_if_eq (X : kCx p R s m args c cc own nL N kd D cA ad sa) {x : Int} {PT PF : Prop} {off : Int} {tgt : Nat} (d : decode cc pc = .ok (.ifCond .eq off, 3)) (ht : (pc : Int) + off = (tgt : Int)) (h : rg x ∧ if x = 0 then PT else PF) (kt : PT → kAt p l e R s m args below meth c Q nL N kd D cA ad tgt lv st z) (kf : PF → kAt p l e R s m args below meth c Q nL N kd D cA ad (pc + 3) lv st z) : kAt p l e R s m args below meth c Q nL N kd D cA ad pc lv (kI x :: st) z := fun H locs ls hP hS hl => lv_if_eq X.1 X.2.1 d ht (fun q => kt (by have h3 := h.2; rwa [if_pos ((kI_eq h.1 rg0).mp q)] at h3) H locs ls hP hS hl) (fun q => kf (by have h3 := h.2; rwa [if_neg (fun g => q ((kI_eq h.1 rg0).mpr g))] at h3) H locs ls hP hS hl)
theorem k_if_ne (X : kCx p R s m args c cc own nL N kd D cA ad sa) {x : Int} {PT PF : Prop} {off : Int} {tgt : Nat} (d : decode cc pc = .ok (.ifCond .ne off, 3)) (ht : (pc : Int) + off = (tgt : Int)) (h : rg x ∧ if x = 0 then PF else PT) (kt : PT → kAt p l e R s m args below meth c Q nL N kd D cA ad tgt lv st z) (kf : PF → kAt p l e R s m args below meth c Q nL N kd D cA ad (pc + 3) lv st z) : kAt p l e R s m args below meth c Q nL N kd D cA ad pc lv (kI x :: st) z := fun H locs ls hP hS hl => lv_if_ne X.1 X.2.1 d ht (fun q => kt (by have h3 := h.2; rwa [if_neg (fun g => q ((kI_eq h.1 rg0).mpr g))] at h3) H locs ls hP hS hl) (fun q => kf (by have h3 := h.2; rwa [if_pos ((kI_eq h.1 rg0).mp q)] at h3) H locs ls hP hS hl)
theorem k_if_lt (X : kCx p R s m args c cc own nL N kd D cA ad sa) {x : Int} {PT PF : Prop} {off : Int} {tgt : Nat} (d : decode cc pc = .ok (.ifCond .lt off, 3)) (ht : (pc : Int) + off = (tgt : Int)) (h : rg x ∧ if x < 0 then PT else PF) (kt : PT → kAt p l e R s m args below meth c Q nL N kd D cA ad tgt lv st z) (kf : PF → kAt p l e R s m args below meth c Q nL N kd D cA ad (pc + 3) lv st z) : kAt p l e R s m args below meth c Q nL N kd D cA ad pc lv (kI x :: st) z := fun H locs ls hP hS hl => lv_if_lt X.1 X.2.1 d ht (fun q => kt (by have h3 := h.2; rwa [if_pos ((kI_lt h.1 rg0).mp q)] at h3) H locs ls hP hS hl) (fun q => kf (by have h3 := h.2; rwa [if_neg (fun g => q ((kI_lt h.1 rg0).mpr g))] at h3) H locs ls hP hS hl)
theorem k_if_le (X : kCx p R s m args c cc own nL N kd D cA ad sa) {x : Int} {PT PF : Prop} {off : Int} {tgt : Nat} (d : decode cc pc = .ok (.ifCond .le off, 3)) (ht : (pc : Int) + off = (tgt : Int)) (h : rg x ∧ if x ≤ 0 then PT else PF) (kt : PT → kAt p l e R s m args below meth c Q nL N kd D cA ad tgt lv st z) (kf : PF → kAt p l e R s m args below meth c Q nL N kd D cA ad (pc + 3) lv st z) : kAt p l e R s m args below meth c Q nL N kd D cA ad pc lv (kI x :: st) z := fun H locs ls hP hS hl => lv_if_le X.1 X.2.1 d ht (fun q => kt (by have h3 := h.2; rwa [if_pos ((kI_le h.1 rg0).mp q)] at h3) H locs ls hP hS hl) (fun q => kf (by have h3 := h.2; rwa [if_neg (fun g => q ((kI_le h.1 rg0).mpr g))] at h3) H locs ls hP hS hl)
theorem k_if_gt (X : kCx p R s m args c cc own nL N kd D cA ad sa) {x : Int} {PT PF : Prop} {off : Int} {tgt : Nat} (d : decode cc pc = .ok (.ifCond .gt off, 3)) (ht : (pc : Int) + off = (tgt : Int)) (h : rg x ∧ if 0 < x then PT else PF) (kt : PT → kAt p l e R s m args below meth c Q nL N kd D cA ad tgt lv st z) (kf : PF → kAt p l e R s m args below meth c Q nL N kd D cA ad (pc + 3) lv st z) : kAt p l e R s m args below meth c Q nL N kd D cA ad pc lv (kI x :: st) z := fun H locs ls hP hS hl => lv_if_gt X.1 X.2.1 d ht (fun q => kt (by have h3 := h.2; rwa [if_pos ((kI_lt rg0 h.1).mp q)] at h3) H locs ls hP hS hl) (fun q => kf (by have h3 := h.2; rwa [if_neg (fun g => q ((kI_lt rg0 h.1).mpr g))] at h3) H locs ls hP hS hl)
theorem k_if_ge (X : kCx p R s m args c cc own nL N kd D cA ad sa) {x : Int} {PT PF : Prop} {off : Int} {tgt : Nat} (d : decode cc pc = .ok (.ifCond .ge off, 3)) (ht : (pc : Int) + off = (tgt : Int)) (h : rg x ∧ if 0 ≤ x then PT else PF) (kt : PT → kAt p l e R s m args below meth c Q nL N kd D cA ad tgt lv st z) (kf : PF → kAt p l e R s m args below meth c Q nL N kd D cA ad (pc + 3) lv st z) : kAt p l e R s m args below meth c Q nL N kd D cA ad pc lv (kI x :: st) z := fun H locs ls hP hS hl => lv_if_ge X.1 X.2.1 d ht (fun q => kt (by have h3 := h.2; rwa [if_pos ((kI_le rg0 h.1).mp q)] at h3) H locs ls hP hS hl) (fun q => kf (by have h3 := h.2; rwa [if_neg (fun g => q ((kI_le rg0 h.1).mpr g))] at h3) H locs ls hP hS hl)
theorem kcell_o {kd : Nat → Nat × Nat × Nat} {c ci n : Nat} (h : kd c = (0, ci, n)) : kcell kd cA ad z c = .inr (ci, (List.range n).map (kval ad z c ci)) := by simp [kcell, h]
theorem kcell_i {kd : Nat → Nat × Nat × Nat} {c n b : Nat} (h : kd c = (1, n, b)) : kcell kd cA ad z c = .inl (cA 0, n, .inl (fun j => Int32.ofInt (z c j))) := by simp [kcell, h]
theorem kcell_b {kd : Nat → Nat × Nat × Nat} {c n b : Nat} (h : kd c = (2, n, b)) : kcell kd cA ad z c = .inl (cA 1, n, .inl (fun j => Int32.ofInt (z c j))) := by simp [kcell, h]
theorem kcell_r {kd : Nat → Nat × Nat × Nat} {c n b : Nat} (h : kd c = (3, n, b)) : kcell kd cA ad z c = .inl (cA b, n, .inr (.inr (.inr (.inr (fun j => some (ad (c + 1 + j))))))) := by simp [kcell, h]
theorem kcell_eq {kd : Nat → Nat × Nat × Nat} {z z' : Hp} {b : Nat} (h : ∀ j, z' b j = z b j) : kcell kd cA ad z' b = kcell kd cA ad z b := by
  have e : z' b = z b := funext h
  have e2 : kval ad z' b = kval ad z b := by
    funext ci j
    unfold kval
    rw [e]
  unfold kcell
  rw [e2, e]
theorem kup_ne {z : Hp} {c j b : Nat} {x : Int} (h : b ≠ c) (i : Nat) : kup z c j x b i = z b i := if_neg (fun q => h q.1)
theorem kfs_get {c ci n j : Nat} (h : j < n) : ((List.range n).map (kval ad z c ci))[j]? = some (kval ad z c ci j) := by rw [List.getElem?_map, List.getElem?_range h]; rfl
/-- a field's place: link own idx speaks of field j of class ci (n fields) -/
def kF (own : String) (idx ci j n : Nat) : Prop := ∃ (C : String) (T : u_T), vwCl[ci]? = some (C, T, n) ∧ j < n ∧ (∀ w ∈ u_ws C T n, w ∈ GW) ∧ Cond.fieldLink own idx (T j).1 (T j).2.1 (T j).2.2.1 ∈ GW
/-- .. that may be written, of type ty -/
def kFP (own : String) (idx ci j n : Nat) (ty : FieldType) : Prop := ∃ (C : String) (T : u_T) (t0 : Nat → FieldType), vwCl[ci]? = some (C, T, n) ∧ j < n ∧ (∀ w ∈ u_ws C T n, w ∈ GW) ∧ Cond.fieldLink own idx (T j).1 (T j).2.1 (T j).2.2.1 ∈ GW ∧
  (∀ k, k < n → parseFieldDescriptor (T k).2.2.1 = some (t0 k)) ∧ (∀ a, a < n → ∀ b, b < n → a ≠ b → (T a).2.1 ≠ (T b).2.1) ∧ (T j).2.2.2 = false ∧ t0 j = ty
theorem k_getI (X : kCx p R s m args c cc own nL N kd D cA ad sa) {idx ci j n b : Nat} (F : kF own idx ci j n) (hk : kd b = (0, ci, n)) (hr : kro ci j = 0) (d : decode cc pc = .ok (.getfield idx, 3)) (kk : kAt p l e R s m args below meth c Q nL N kd D cA ad (pc + 3) lv (kI (z b j) :: st) z) : kAt p l e R s m args below meth c Q nL N kd D cA ad pc lv (.ref (ad b) :: st) z := by
  obtain ⟨C, T, h1, h2, h3, h4⟩ := F
  obtain ⟨x1, x2, x3, x4, x5, x6, x7, x8, x9⟩ := X
  intro H locs ls hP hS hl
  have hb : b < N := x8 b (by rw [hk]; exact kne (by decide))
  refine va_get (Ts := GW) x1 x2 x5 h3 x4 x6 hP b (by rw [kW_get hb, kcell_o hk]) h1 j h2 (x5 _ h4) (fun _ h => h) (by rw [kfs_get h2, kval, if_pos hr]) d ?_
  exact kk H locs ls hP hS hl
theorem k_getR (X : kCx p R s m args c cc own nL N kd D cA ad sa) {idx ci j n b t : Nat} (F : kF own idx ci j n) (hk : kd b = (0, ci, n)) (hr : kro ci j ≠ 0) (ht : b + kro ci j = t) (d : decode cc pc = .ok (.getfield idx, 3)) (kk : kAt p l e R s m args below meth c Q nL N kd D cA ad (pc + 3) lv (.ref (ad t) :: st) z) : kAt p l e R s m args below meth c Q nL N kd D cA ad pc lv (.ref (ad b) :: st) z := by
  obtain ⟨C, T, h1, h2, h3, h4⟩ := F
  obtain ⟨x1, x2, x3, x4, x5, x6, x7, x8, x9⟩ := X
  intro H locs ls hP hS hl
  have hb : b < N := x8 b (by rw [hk]; exact kne (by decide))
  refine va_get (Ts := GW) x1 x2 x5 h3 x4 x6 hP b (by rw [kW_get hb, kcell_o hk]) h1 j h2 (x5 _ h4) (fun _ h => h) (by rw [kfs_get h2, kval, if_neg hr, ht]) d ?_
  exact kk H locs ls hP hS hl
theorem kW_setf {c ci n j : Nat} {x : Int} (hk : kd c = (0, ci, n)) (hr : kro ci j = 0) (hc : c < N) (hj : j < n) : (kW N kd cA ad z).set c (ad c, .inr (ci, ((List.range n).map (kval ad z c ci)).set j (.int (Int32.ofInt x)))) = kW N kd cA ad (kup z c j x) := by
  refine kW_set hc ?_ (fun b hb => ?_)
  · rw [kcell_o hk]
    congr 2
    apply List.ext_getElem?
    intro i
    by_cases hi : i < n
    · rw [kfs_get hi]
      by_cases hij : j = i
      · subst hij
        rw [List.getElem?_set_self (by simpa using hi)]
        simp [kval, hr, kup]
      · rw [List.getElem?_set_ne hij, kfs_get hi]
        have e : kup z c j x c i = z c i := if_neg (fun q => hij q.2.symm)
        unfold kval
        rw [e]
    · rw [List.getElem?_eq_none (by simpa using hi), List.getElem?_eq_none (by simpa using hi)]
  · exact kcell_eq (fun i => kup_ne hb i)
theorem k_putI (X : kCx p R s m args c cc own nL N kd D cA ad sa) {idx ci j n b : Nat} {x : Int} (F : kFP own idx ci j n .int) (hk : kd b = (0, ci, n)) (hr : kro ci j = 0) (d : decode cc pc = .ok (.putfield idx, 3)) (kk : kAt p l e R s m args below meth c Q nL N kd D cA ad (pc + 3) lv st (kup z b j x)) : kAt p l e R s m args below meth c Q nL N kd D cA ad pc lv (kI x :: .ref (ad b) :: st) z := by
  obtain ⟨C, T, t0, h1, h2, h3, h4, h5, h6, h7, h8⟩ := F
  obtain ⟨x1, x2, x3, x4, x5, x6, x7, x8, x9⟩ := X
  intro H locs ls hP hS hl
  have hb : b < N := x8 b (by rw [hk]; exact kne (by decide))
  refine va_put (Ts := GW) x1 x2 x5 h3 t0 h5 h6 x4 x6 hP (kD x7 z) hS b (by rw [kW_get hb, kcell_o hk]) h1 j h2 (x5 _ h4) (fun _ h => h) h7 (ty := .int) (by rw [← h8]; exact h5 j h2) rfl rfl (by simpa using h2) d (fun H1 locs1 hP1 _ hS1 => ?_)
  have e := kW_setf (cA := cA) (ad := ad) (z := z) (x := x) hk hr hb h2
  exact kk H1 locs1 ls (by unfold kPic; rw [← e]; exact hP1) hS1 hl
theorem k_putZ (X : kCx p R s m args c cc own nL N kd D cA ad sa) {idx ci j n b : Nat} {x : Int} (F : kFP own idx ci j n .boolean) (hk : kd b = (0, ci, n)) (hr : kro ci j = 0) (hx : bz x) (d : decode cc pc = .ok (.putfield idx, 3)) (kk : kAt p l e R s m args below meth c Q nL N kd D cA ad (pc + 3) lv st (kup z b j x)) : kAt p l e R s m args below meth c Q nL N kd D cA ad pc lv (kI x :: .ref (ad b) :: st) z := by
  obtain ⟨C, T, t0, h1, h2, h3, h4, h5, h6, h7, h8⟩ := F
  obtain ⟨x1, x2, x3, x4, x5, x6, x7, x8, x9⟩ := X
  intro H locs ls hP hS hl
  have hb : b < N := x8 b (by rw [hk]; exact kne (by decide))
  refine va_put (Ts := GW) x1 x2 x5 h3 t0 h5 h6 x4 x6 hP (kD x7 z) hS b (by rw [kW_get hb, kcell_o hk]) h1 j h2 (x5 _ h4) (fun _ h => h) h7 (ty := .boolean) (by rw [← h8]; exact h5 j h2) (kI_bool hx) (by rcases hx with rfl | rfl <;> decide +kernel) (by simpa using h2) d (fun H1 locs1 hP1 _ hS1 => ?_)
  have e := kW_setf (cA := cA) (ad := ad) (z := z) (x := x) hk hr hb h2
  exact kk H1 locs1 ls (by unfold kPic; rw [← e]; exact hP1) hS1 hl
theorem k_iald (X : kCx p R s m args c cc own nL N kd D cA ad sa) {b n u : Nat} {i : Int} {P : Prop} (hk : kd b = (1, n, u)) (hn : n ≤ 2147483648) (d : decode cc pc = .ok (.iaload, 1)) (h : inb i n ∧ P) (kk : P → kAt p l e R s m args below meth c Q nL N kd D cA ad (pc + 1) lv (kI (z b i.toNat) :: st) z) : kAt p l e R s m args below meth c Q nL N kd D cA ad pc lv (kI i :: .ref (ad b) :: st) z := by
  obtain ⟨x1, x2, x3, x4, x5, x6, x7, x8, x9⟩ := X
  intro H locs ls hP hS hl
  have hb : b < N := x8 b (by rw [hk]; exact kne (by decide))
  refine va_iald x1 x2 x6 hP b 0 (by rw [kW_get hb, kcell_i hk]) rfl (kI_in h.1 hn) d ?_
  rw [kI_clamp h.1 hn]
  exact kk h.2 H locs ls hP hS hl
theorem k_bald (X : kCx p R s m args c cc own nL N kd D cA ad sa) {b n u : Nat} {i : Int} {P : Prop} (hk : kd b = (2, n, u)) (hn : n ≤ 2147483648) (d : decode cc pc = .ok (.baload, 1)) (h : inb i n ∧ P) (kk : P → kAt p l e R s m args below meth c Q nL N kd D cA ad (pc + 1) lv (kI (z b i.toNat) :: st) z) : kAt p l e R s m args below meth c Q nL N kd D cA ad pc lv (kI i :: .ref (ad b) :: st) z := by
  obtain ⟨x1, x2, x3, x4, x5, x6, x7, x8, x9⟩ := X
  intro H locs ls hP hS hl
  have hb : b < N := x8 b (by rw [hk]; exact kne (by decide))
  refine va_bald x1 x2 x6 hP b 1 (by rw [kW_get hb, kcell_b hk]) rfl (kI_in h.1 hn) d ?_
  rw [kI_clamp h.1 hn]
  exact kk h.2 H locs ls hP hS hl
theorem kW_seti {c n u k : Nat} {x : Int} (hk : kd c = (1, n, u)) (hc : c < N) : (kW N kd cA ad z).set c (ad c, .inl (cA 0, n, .inl (upd (fun j => Int32.ofInt (z c j)) k (Int32.ofInt x)))) = kW N kd cA ad (kup z c k x) := by
  refine kW_set hc ?_ (fun b hb => ?_)
  · rw [kcell_i hk]
    congr 4
    funext j
    by_cases hj : j = k
    · simp [upd, kup, hj]
    · simp [upd, kup, hj]
  · exact kcell_eq (fun i => kup_ne hb i)
theorem kW_setb {c n u k : Nat} {x : Int} (hk : kd c = (2, n, u)) (hc : c < N) : (kW N kd cA ad z).set c (ad c, .inl (cA 1, n, .inl (upd (fun j => Int32.ofInt (z c j)) k (Int32.ofInt x)))) = kW N kd cA ad (kup z c k x) := by
  refine kW_set hc ?_ (fun b hb => ?_)
  · rw [kcell_b hk]
    congr 4
    funext j
    by_cases hj : j = k
    · simp [upd, kup, hj]
    · simp [upd, kup, hj]
  · exact kcell_eq (fun i => kup_ne hb i)
theorem k_iast (X : kCx p R s m args c cc own nL N kd D cA ad sa) {b n u : Nat} {i x : Int} {P : Prop} (hk : kd b = (1, n, u)) (hn : n ≤ 2147483648) (d : decode cc pc = .ok (.iastore, 1)) (h : inb i n ∧ P) (kk : P → kAt p l e R s m args below meth c Q nL N kd D cA ad (pc + 1) lv st (kup z b i.toNat x)) : kAt p l e R s m args below meth c Q nL N kd D cA ad pc lv (kI x :: kI i :: .ref (ad b) :: st) z := by
  obtain ⟨x1, x2, x3, x4, x5, x6, x7, x8, x9⟩ := X
  intro H locs ls hP hS hl
  have hb : b < N := x8 b (by rw [hk]; exact kne (by decide))
  refine va_iast x1 x2 x6 hP (kD x7 z) hS b 0 (by rw [kW_get hb, kcell_i hk]) rfl (kI_in h.1 hn) d (fun H1 locs1 hP1 _ hS1 => ?_)
  rw [kI_clamp h.1 hn] at hP1
  refine kk h.2 H1 locs1 ls ?_ hS1 hl
  unfold kPic
  rw [← kW_seti hk hb]
  exact hP1
theorem k_bast (X : kCx p R s m args c cc own nL N kd D cA ad sa) {b n u : Nat} {i x : Int} {P : Prop} (hk : kd b = (2, n, u)) (hn : n ≤ 2147483648) (d : decode cc pc = .ok (.bastore, 1)) (h : by8 x ∧ inb i n ∧ P) (kk : P → kAt p l e R s m args below meth c Q nL N kd D cA ad (pc + 1) lv st (kup z b i.toNat x)) : kAt p l e R s m args below meth c Q nL N kd D cA ad pc lv (kI x :: kI i :: .ref (ad b) :: st) z := by
  obtain ⟨x1, x2, x3, x4, x5, x6, x7, x8, x9⟩ := X
  intro H locs ls hP hS hl
  have hb : b < N := x8 b (by rw [hk]; exact kne (by decide))
  refine va_bast x1 x2 x6 hP (kD x7 z) hS b 1 (by rw [kW_get hb, kcell_b hk]) rfl (kI_in h.2.1 hn) d (fun H1 locs1 hP1 _ hS1 => ?_)
  rw [kI_clamp h.2.1 hn, vp_nar_byte, kI_i2b h.1] at hP1
  refine kk h.2.2 H1 locs1 ls ?_ hS1 hl
  unfold kPic
  rw [← kW_setb hk hb]
  exact hP1
theorem k_aald (X : kCx p R s m args c cc own nL N kd D cA ad sa) {b n u : Nat} {ty : FieldType} {i : Int} {P : Prop} (hk : kd b = (3, n, u)) (ht : (kTys cA)[u]? = some (cA u, ty)) (hty : ty.isReference = true) (hn : n ≤ 2147483648) (d : decode cc pc = .ok (.aaload, 1)) (h : inb i n ∧ P) (kk : P → kAt p l e R s m args below meth c Q nL N kd D cA ad (pc + 1) lv (.ref (ad (b + 1 + i.toNat)) :: st) z) : kAt p l e R s m args below meth c Q nL N kd D cA ad pc lv (kI i :: .ref (ad b) :: st) z := by
  obtain ⟨x1, x2, x3, x4, x5, x6, x7, x8, x9⟩ := X
  intro H locs ls hP hS hl
  have hb : b < N := x8 b (by rw [hk]; exact kne (by decide))
  have hlt : (Int32.ofInt i).toNatClampNeg < n := by rw [kI_clamp h.1 hn]; have := h.1.1; have := h.1.2; omega
  have hc := hP b _ (by rw [kW_get hb, kcell_r hk])
  refine W.aald (v := .ref (ad (b + 1 + i.toNat))) (ty := ty) x1 x2 hc ((x6.2 u _ ht).1 n (fun j => va_rf (some (ad (b + 1 + j))))) hty (fun q => by cases q) (by show ¬ (Int32.ofInt i < 0 ∨ (arrV _ _ _).slots.size ≤ _); rw [arrV_size]; exact kI_in h.1 hn) (by show (arrV _ _ _).slots[_]? = _; rw [arrV_read _ _ hlt, kI_clamp h.1 hn]; rfl) rfl rfl d ?_
  exact kk h.2 H locs ls hP hS hl
theorem k_alen (X : kCx p R s m args c cc own nL N kd D cA ad sa) {b t n u : Nat} (hk : kd b = (t + 1, n, u)) (ht : t < 2) (d : decode cc pc = .ok (.arraylength, 1)) (kk : kAt p l e R s m args below meth c Q nL N kd D cA ad (pc + 1) lv (kI n :: st) z) : kAt p l e R s m args below meth c Q nL N kd D cA ad pc lv (.ref (ad b) :: st) z := by
  obtain ⟨x1, x2, x3, x4, x5, x6, x7, x8, x9⟩ := X
  intro H locs ls hP hS hl
  have hb : b < N := x8 b (by rw [hk]; exact kne (by omega))
  have e : Int32.ofNat n = Int32.ofInt (n : Int) := Int32.ofInt_eq_ofNat.symm
  rcases (show t = 0 ∨ t = 1 by omega) with rfl | rfl
  · exact va_alen x1 x2 x6 hP b 0 (by rw [kW_get hb, kcell_i hk]) rfl e d (kk H locs ls hP hS hl)
  · exact va_alen x1 x2 x6 hP b 1 (by rw [kW_get hb, kcell_b hk]) rfl e d (kk H locs ls hP hS hl)
theorem kEnv.same {A : Nat → Prop} {sa : Nat → Nat} {u U : State} {H : Heap} (hv : U.vm = u.vm) (h : kEnv A sa u H) : kEnv A sa U H := by
  have ha : u.vm.Alike U.vm := by rw [hv]; exact Vm.Alike.refl _
  obtain ⟨h1, ⟨t, h2, h3⟩, h4⟩ := h
  exact ⟨fun k hk => ⟨(h1 k hk).1.moved ha, (h1 k hk).2.same hv⟩, ⟨t, h2.moved ha, h3.moved ha⟩, h4.moved ha⟩
/-- a method's start and end -/
def kPc (N : Nat) (kd : Nat → Nat × Nat × Nat) (D : va_G) (cA : Nat → ClassId) (ad sa : Nat → Nat) (as : List Value) (z : Hp) : Array Value → State → Prop := va_Pc as (fun U => kPic N kd D cA ad z U.heap ∧ va_K D vwCl (kTys cA) U ∧ kEnv (kA N ad) sa U U.heap)
def kQi (N : Nat) (kd : Nat → Nat × Nat × Nat) (D : va_G) (cA : Nat → ClassId) (ad : Nat → Nat) (post : Int → Hp → Prop) : Array Value → State → Outcome → State → Prop := va_Qi (fun (r : Int32) (z' : Hp) => ∃ v : Int, r = Int32.ofInt v ∧ post v z') (fun z' t => kPic N kd D cA ad z' t.heap) (kA N ad)
def kQl (N : Nat) (kd : Nat → Nat × Nat × Nat) (D : va_G) (cA : Nat → ClassId) (ad : Nat → Nat) (post : Int → Hp → Prop) : Array Value → State → Outcome → State → Prop := va_Ql (fun (r : Int64) (z' : Hp) => ∃ v : Int, r = Int64.ofInt v ∧ post v z') (fun z' t => kPic N kd D cA ad z' t.heap) (kA N ad)
def kQv (N : Nat) (kd : Nat → Nat × Nat × Nat) (D : va_G) (cA : Nat → ClassId) (ad : Nat → Nat) (post : Hp → Prop) : Array Value → State → Outcome → State → Prop := va_Qv post (fun z' t => kPic N kd D cA ad z' t.heap) (kA N ad)
def kMet (l : Launch) (y : MethodName) (bytes : ByteArray) (maxL : Nat) (ret : Option FieldType) (d N : Nat) (kd : Nat → Nat × Nat × Nat) (D : va_G) (cA : Nat → ClassId) (ad sa : Nat → Nat) (as : List Value) (z : Hp) (Qc : Array Value → State → Outcome → State → Prop) : Prop := Met l y (Cond.code y bytes maxL ret :: GW) (kR d) (kPc N kd D cA ad sa as z) Qc 0 0 (kA N ad)
theorem k_frameBlind {as : List Value} : FrameBlind (kPc N kd D cA ad sa as z) := by
  intro a U g mk q
  obtain ⟨q0, q1, q2, q3⟩ := q
  exact ⟨q0, q1, va_K.moved (u := U) (U := U.calling g mk a) (Vm.Alike.refl U.vm) q2, kEnv.same (u := U) (U := U.calling g mk a) rfl q3⟩
theorem k_preOf (X : kCx p R s m args c cc own nL N kd D cA ad sa) {H : Heap} {locs : List Loc} {as : List Value} (hP : kPic N kd D cA ad z H) (hS : va_S (kA N ad) s.heap H locs) (U : State) (hU : U.heap = H) (hW : s.WarmedH U.vm) : kPc N kd D cA ad sa as z as.toArray U := by
  obtain ⟨x1, x2, x3, x4, x5, x6, x7, x8, x9⟩ := X
  exact ⟨rfl, by rw [hU]; exact hP, va_K.moved hW.alike x6, by rw [hU]; exact kEnv.moved hW (kEnv.kept x9 hS.2.1)⟩
/-- the words of a call, virtual and static -/
theorem k_lkV {own : String} {idx : Nat} {C : String} {y : MethodName} {bytes : ByteArray} {maxL : Nat} {ret : Option FieldType} (h0 : ∀ w ∈ GW, goodWord w = true) (h1 : Cond.methodLink own idx y ∈ GW) (h2 : Cond.instanceMethod y ∈ GW) (h3 : Cond.selects C y y ∈ GW) (h4 : Cond.initialized C ∈ GW) (h5 : Cond.code y bytes maxL ret ∈ GW) : GoodIn GW (wsV own idx C y (Cond.code y bytes maxL ret :: GW)) := by
  have H : ∀ w ∈ GW, w ∈ GW ∧ ((w.onTables && w.keeps) = true ∨ ∃ ty, w = .arrayClass ty) := fun w hw => ⟨hw, good_of_word (h0 w hw)⟩
  intro w hw
  unfold wsV at hw
  simp only [List.cons_append, List.nil_append, List.mem_cons] at hw
  rcases hw with rfl | rfl | rfl | rfl | rfl | hw
  · exact H _ h1
  · exact H _ h2
  · exact H _ h3
  · exact H _ h4
  · exact H _ h5
  · exact H _ hw
theorem k_lkS {own : String} {idx : Nat} {y : MethodName} {bytes : ByteArray} {maxL : Nat} {ret : Option FieldType} (h0 : ∀ w ∈ GW, goodWord w = true) (h1 : Cond.methodLink own idx y ∈ GW) (h2 : Cond.static y ∈ GW) (h4 : Cond.initialized y.cls ∈ GW) (h5 : Cond.code y bytes maxL ret ∈ GW) : GoodIn GW (Cond.methodLink own idx y :: Cond.static y :: Cond.initialized y.cls :: Cond.code y bytes maxL ret :: GW) := by
  have H : ∀ w ∈ GW, w ∈ GW ∧ ((w.onTables && w.keeps) = true ∨ ∃ ty, w = .arrayClass ty) := fun w hw => ⟨hw, good_of_word (h0 w hw)⟩
  intro w hw
  simp only [List.mem_cons] at hw
  rcases hw with rfl | rfl | rfl | rfl | hw
  · exact H _ h1
  · exact H _ h2
  · exact H _ h4
  · exact H _ h5
  · exact H _ hw
def kyOk (y : MethodName) (n : Nat) : Prop := y.cls ≠ "java/lang/invoke/MethodHandle" ∧ y.cls ≠ "java/lang/invoke/VarHandle" ∧ (parseMethodDescriptor y.desc).map (fun d => d.parameters.length) = some n
section KRUN
variable {y : MethodName} {bytes : ByteArray} {maxL : Nat} {ret : Option FieldType} {dd idx n : Nat} {As : List Value} {Qc : Array Value → State → Outcome → State → Prop}
theorem k_runV {C : String} {b ci nf : Nat} {T : u_T} {H : Heap} {locs : List Loc} {ls : Array Slot} (X : kCx p R s m args c cc own nL N kd D cA ad sa) (L : GoodIn GW (wsV own idx C y (Cond.code y bytes maxL ret :: GW))) (hC : y.cls = C) (hy : kyOk y n) (hn : As.length = n) (hR : dd + 1 ≤ R.frames ∧ 8 + (maxL + 11) + 64 * dd ≤ R.locals)
    (hM : kMet l y bytes maxL ret dd N kd D cA ad sa (.ref (ad b) :: As) z Qc) (hk : kd b = (0, ci, nf)) (hc : vwCl[ci]? = some (C, T, nf)) (hst : (st.map fun v => v.category).sum ≤ 8) (d : decode cc pc = .ok (.invokevirtual idx, 3))
    (hP : kPic N kd D cA ad z H) (hS : va_S (kA N ad) s.heap H locs) (hl : lv_has ls nL lv) : va_Run p l e R s m args below meth c H locs 0 0 0 0 (F0 m pc ls (As.reverse ++ .ref (ad b) :: st)) st (Qc (Value.ref (ad b) :: As).toArray) (kA N ad) := by
  have X0 := X
  obtain ⟨x1, x2, x3, x4, x5, x6, x7, x8, x9⟩ := X
  have hb : b < N := x8 b (by rw [hk]; exact kne (by decide))
  exact va_runV (As := As) (rest := st) (Ts := GW) ⟨x1, x2, x3, x4, x5⟩ hM (cwV n x5 L rfl rfl rfl ⟨hC, hy.1, hy.2.1, hy.2.2⟩ hR) ⟨k_frameBlind, va_recv x6 hP hc (by rw [kW_get hb, kcell_o hk]), k_preOf X0 hP hS⟩ rfl hn hl.1 rfl (lv_room hst) d ⟨Nat.zero_le _, Nat.zero_le _⟩
theorem k_runS {H : Heap} {locs : List Loc} {ls : Array Slot} (X : kCx p R s m args c cc own nL N kd D cA ad sa) (L : GoodIn GW (Cond.methodLink own idx y :: Cond.static y :: Cond.initialized y.cls :: Cond.code y bytes maxL ret :: GW)) (hy : kyOk y n) (hn : As.length = n) (hR : dd + 1 ≤ R.frames ∧ 8 + (maxL + 11) + 64 * dd ≤ R.locals)
    (hM : kMet l y bytes maxL ret dd N kd D cA ad sa As z Qc) (hst : (st.map fun v => v.category).sum ≤ 8) (d : decode cc pc = .ok (.invokestatic idx, 3))
    (hP : kPic N kd D cA ad z H) (hS : va_S (kA N ad) s.heap H locs) (hl : lv_has ls nL lv) : va_Run p l e R s m args below meth c H locs 0 0 0 0 (F0 m pc ls (As.reverse ++ st)) st (Qc As.toArray) (kA N ad) := by
  have X0 := X
  obtain ⟨x1, x2, x3, x4, x5, x6, x7, x8, x9⟩ := X
  have hg : GoodIn GW (Cond.code y bytes maxL ret :: GW) := fun w hw => L w (List.mem_cons_of_mem _ (List.mem_cons_of_mem _ (List.mem_cons_of_mem _ hw)))
  have w1 := x5 _ (L _ (List.mem_cons_self)).1
  have w2 := x5 _ (L _ (List.mem_cons_of_mem _ List.mem_cons_self)).1
  have w3 := x5 _ (L _ (List.mem_cons_of_mem _ (List.mem_cons_of_mem _ List.mem_cons_self))).1
  exact va_runS (As := As) (rest := st) (Ts := GW) ⟨x1, x2, x3, x4, x5⟩ hM ⟨callB_of n x5 hg rfl rfl rfl w3 w1 hy hR, w2⟩ ⟨k_frameBlind, k_preOf X0 hP hS⟩ rfl hn hl.1 rfl (lv_room hst) d ⟨Nat.zero_le _, Nat.zero_le _⟩
end KRUN
theorem k_afterI {post : Int → Hp → Prop} {st0 : List Value} {a : Array Value} (hr : ∀ (H : Heap) (locs : List Loc) (ls : Array Slot), kPic N kd D cA ad z H → va_S (kA N ad) s.heap H locs → lv_has ls nL lv → va_Run p l e R s m args below meth c H locs 0 0 0 0 (F0 m pc ls st0) st (kQi N kd D cA ad post a) (kA N ad)) (kk : ∀ v z', post v z' → kAt p l e R s m args below meth c Q nL N kd D cA ad (pc + 3) lv (kI v :: st) z') : kAt p l e R s m args below meth c Q nL N kd D cA ad pc lv st0 z := by
  intro H locs ls hP hS hl
  refine va_calli (hr H locs ls hP hS hl) hS (fun q _ h => h) (fun q h => h) (fun r u t H1 locs1 ht hvm hp hB hz hk hS1 => ?_)
  obtain ⟨v, rfl, hp⟩ := hp
  rw [ht] at hB
  exact kk v u hp H1 locs1 ls hB hS1 hl
theorem k_afterL {post : Int → Hp → Prop} {st0 : List Value} {a : Array Value} (hr : ∀ (H : Heap) (locs : List Loc) (ls : Array Slot), kPic N kd D cA ad z H → va_S (kA N ad) s.heap H locs → lv_has ls nL lv → va_Run p l e R s m args below meth c H locs 0 0 0 0 (F0 m pc ls st0) st (kQl N kd D cA ad post a) (kA N ad)) (kk : ∀ v z', post v z' → kAt p l e R s m args below meth c Q nL N kd D cA ad (pc + 3) lv (kL v :: st) z') : kAt p l e R s m args below meth c Q nL N kd D cA ad pc lv st0 z := by
  intro H locs ls hP hS hl
  refine va_calll (hr H locs ls hP hS hl) hS (fun q _ h => h) (fun q h => h) (fun r u t H1 locs1 ht hvm hp hB hz hk hS1 => ?_)
  obtain ⟨v, rfl, hp⟩ := hp
  rw [ht] at hB
  exact kk v u hp H1 locs1 ls hB hS1 hl
theorem k_afterV {post : Hp → Prop} {st0 : List Value} {a : Array Value} (hr : ∀ (H : Heap) (locs : List Loc) (ls : Array Slot), kPic N kd D cA ad z H → va_S (kA N ad) s.heap H locs → lv_has ls nL lv → va_Run p l e R s m args below meth c H locs 0 0 0 0 (F0 m pc ls st0) st (kQv N kd D cA ad post a) (kA N ad)) (kk : ∀ z', post z' → kAt p l e R s m args below meth c Q nL N kd D cA ad (pc + 3) lv st z') : kAt p l e R s m args below meth c Q nL N kd D cA ad pc lv st0 z := by
  intro H locs ls hP hS hl
  refine va_callv (hr H locs ls hP hS hl) hS (fun q _ h => h) (fun q h => h) (fun u t H1 locs1 ht hvm hp hB hz hk hS1 => ?_)
  rw [ht] at hB
  exact kk u hp H1 locs1 ls hB hS1 hl
theorem k_iret {post : Int → Hp → Prop} {x : Int} (X : kCx p R s m args c cc own nL N kd D cA ad sa) (hr : meth.sig.returnType = some .int) (hk : meth.locks = false) (d : decode cc pc = .ok (.ireturn, 1)) (h : post x z) : kAt p l e R s m args below meth c (MQ below (kQi N kd D cA ad post) args s 0 0 (kA N ad)) nL N kd D cA ad pc lv (kI x :: st) z := by
  intro H locs ls hP hS hl
  exact W.iret (Qc := kQi N kd D cA ad post) (free := kA N ad) (v := Int32.ofInt x) X.1 X.2.1 hr (fun t ht hW => ⟨⟨Int32.ofInt x, z, rfl, ⟨x, rfl, h⟩, by show kPic N kd D cA ad z t.heap; rw [ht]; exact hP⟩, hS.F ht⟩) hS.2.2 d hk
theorem k_zret {post : Int → Hp → Prop} {x : Int} (X : kCx p R s m args c cc own nL N kd D cA ad sa) (hr : meth.sig.returnType = some .boolean) (hk : meth.locks = false) (d : decode cc pc = .ok (.ireturn, 1)) (h : bz x ∧ post x z) : kAt p l e R s m args below meth c (MQ below (kQi N kd D cA ad post) args s 0 0 (kA N ad)) nL N kd D cA ad pc lv (kI x :: st) z := by
  intro H locs ls hP hS hl
  exact W.zret (Qc := kQi N kd D cA ad post) (free := kA N ad) (v := Int32.ofInt x) X.1 X.2.1 hr (kI_bool h.1) (fun t ht hW => ⟨⟨Int32.ofInt x, z, rfl, ⟨x, rfl, h.2⟩, by show kPic N kd D cA ad z t.heap; rw [ht]; exact hP⟩, hS.F ht⟩) hS.2.2 d hk
theorem k_lret {post : Int → Hp → Prop} {x : Int} (X : kCx p R s m args c cc own nL N kd D cA ad sa) (hr : meth.sig.returnType = some .long) (hk : meth.locks = false) (d : decode cc pc = .ok (.lreturn, 1)) (h : post x z) : kAt p l e R s m args below meth c (MQ below (kQl N kd D cA ad post) args s 0 0 (kA N ad)) nL N kd D cA ad pc lv (kL x :: st) z := by
  intro H locs ls hP hS hl
  exact W.lret (Qc := kQl N kd D cA ad post) (free := kA N ad) (v := Int64.ofInt x) X.1 X.2.1 hr (fun t ht hW => ⟨⟨Int64.ofInt x, z, rfl, ⟨x, rfl, h⟩, by show kPic N kd D cA ad z t.heap; rw [ht]; exact hP⟩, hS.F ht⟩) hS.2.2 d hk
theorem k_vret {post : Hp → Prop} (X : kCx p R s m args c cc own nL N kd D cA ad sa) (hr : meth.sig.returnType = none) (hk : meth.locks = false) (d : decode cc pc = .ok (.return_, 1)) (h : post z) : kAt p l e R s m args below meth c (MQ below (kQv N kd D cA ad post) args s 0 0 (kA N ad)) nL N kd D cA ad pc lv st z := by
  intro H locs ls hP hS hl
  exact W.vret (Qc := kQv N kd D cA ad post) (free := kA N ad) X.1 X.2.1 hr (fun t ht hW => ⟨⟨z, rfl, h, by show kPic N kd D cA ad z t.heap; rw [ht]; exact hP⟩, hS.F ht⟩) hS.2.2 d hk
theorem k_met {y : MethodName} {ret : Option FieldType} {dd : Nat} {as : List Value} {Qc : Array Value → State → Outcome → State → Prop} (hy : plainName y.cls = true) (hc : y.cls = own) (hlen : (lg_sl as).length ≤ nL) (hj : kInj N ad) (hkd : kLt N kd)
    (body : ∀ (p : Program) (e : Env) (s : State) (m : MethodId) (below : List Frame) (meth : Method) (c : Code), kCx p (kR dd) s m as.toArray c cc own nL N kd D cA ad sa → meth.sig.returnType = ret → meth.locks = false → kAt p l e (kR dd) s m as.toArray below meth c (MQ below Qc as.toArray s 0 0 (kA N ad)) nL N kd D cA ad 0 (lv_args 0 as) [] z) : kMet l y cc nL ret dd N kd D cA ad sa as z Qc := by
  refine Met.ofW (cc := cc) (maxL := nL) (ret := ret) hy rfl ?_
  intro p e s m args below meth c s₁ B hml hv
  obtain ⟨rfl, hP, hK, hE⟩ := hv
  have hts := atoms_spec (ws := Cond.code y cc nL ret :: GW) B.pre
  have hown : s.vm.findClass own = some m.cls := hc ▸ findClass_of_methodNamed B.named
  have X : kCx p (kR dd) s m as.toArray c cc own nL N kd D cA ad sa := ⟨B.exec, B.bytes, hml, hown, fun w hw => hts w (List.mem_cons_of_mem _ hw), hK, hj, hkd, hE⟩
  have hl := lv_entry as (n := nL) hlen
  rw [lg_entry_eq]
  exact body p e s m below meth c X B.returns B.notSynchronized s.heap [] _ hP va_S.rf hl
end KC
end
