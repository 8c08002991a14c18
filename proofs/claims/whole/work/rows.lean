section
/-- a private method of a class that the tables say can be made, by its rows of tables_1 -/
def lw_okq (q : MethodName × Nat) : Prop := (q.1.cls ≠ "java/lang/invoke/MethodHandle" ∧ q.1.cls ≠ "java/lang/invoke/VarHandle") ∧ Cond.instantiable q.1.cls q.2 ∈ tables_1 ∧ Cond.privateMethod q.1 ∈ tables_1 ∧ Cond.instanceMethod q.1 ∈ tables_1
theorem lw_p0 : lw_okq (⟨"SettledDots$Reader", "next", "()V"⟩, 9) := ⟨⟨by decide +kernel, by decide +kernel⟩, List.mem_of_getElem? (i := 138) (by decide +kernel), List.mem_of_getElem? (i := 396) (by decide +kernel), List.mem_of_getElem? (i := 397) (by decide +kernel)⟩
theorem lw_p1 : lw_okq (⟨"SettledDots$Reader", "isAtLetter", "()Z"⟩, 9) := ⟨⟨by decide +kernel, by decide +kernel⟩, List.mem_of_getElem? (i := 138) (by decide +kernel), List.mem_of_getElem? (i := 403) (by decide +kernel), List.mem_of_getElem? (i := 404) (by decide +kernel)⟩
theorem lw_p2 : lw_okq (⟨"SettledDots$Reader", "isWord", "(Ljava/lang/String;)Z"⟩, 9) := ⟨⟨by decide +kernel, by decide +kernel⟩, List.mem_of_getElem? (i := 138) (by decide +kernel), List.mem_of_getElem? (i := 408) (by decide +kernel), List.mem_of_getElem? (i := 409) (by decide +kernel)⟩
theorem lw_p3 : lw_okq (⟨"SettledDots$Reader", "readSize", "()V"⟩, 9) := ⟨⟨by decide +kernel, by decide +kernel⟩, List.mem_of_getElem? (i := 138) (by decide +kernel), List.mem_of_getElem? (i := 460) (by decide +kernel), List.mem_of_getElem? (i := 461) (by decide +kernel)⟩
theorem lw_p4 : lw_okq (⟨"SettledDots$Reader", "readNumber", "(II)I"⟩, 9) := ⟨⟨by decide +kernel, by decide +kernel⟩, List.mem_of_getElem? (i := 138) (by decide +kernel), List.mem_of_getElem? (i := 464) (by decide +kernel), List.mem_of_getElem? (i := 465) (by decide +kernel)⟩
theorem lw_p5 : lw_okq (⟨"SettledDots$Reader", "expect", "(I)Z"⟩, 9) := ⟨⟨by decide +kernel, by decide +kernel⟩, List.mem_of_getElem? (i := 138) (by decide +kernel), List.mem_of_getElem? (i := 468) (by decide +kernel), List.mem_of_getElem? (i := 469) (by decide +kernel)⟩
theorem lw_p6 : lw_okq (⟨"SettledDots$Reader", "fail", "(I)V"⟩, 9) := ⟨⟨by decide +kernel, by decide +kernel⟩, List.mem_of_getElem? (i := 138) (by decide +kernel), List.mem_of_getElem? (i := 472) (by decide +kernel), List.mem_of_getElem? (i := 473) (by decide +kernel)⟩
theorem lw_p7 : lw_okq (⟨"SettledDots$Reader", "valueOfDigits", "()I"⟩, 9) := ⟨⟨by decide +kernel, by decide +kernel⟩, List.mem_of_getElem? (i := 138) (by decide +kernel), List.mem_of_getElem? (i := 476) (by decide +kernel), List.mem_of_getElem? (i := 477) (by decide +kernel)⟩
theorem lw_p8 : lw_okq (⟨"SettledDots$Reader", "readSign", "()V"⟩, 9) := ⟨⟨by decide +kernel, by decide +kernel⟩, List.mem_of_getElem? (i := 138) (by decide +kernel), List.mem_of_getElem? (i := 480) (by decide +kernel), List.mem_of_getElem? (i := 481) (by decide +kernel)⟩
theorem lw_p9 : lw_okq (⟨"SettledDots$Reader", "readLine", "()V"⟩, 9) := ⟨⟨by decide +kernel, by decide +kernel⟩, List.mem_of_getElem? (i := 138) (by decide +kernel), List.mem_of_getElem? (i := 484) (by decide +kernel), List.mem_of_getElem? (i := 485) (by decide +kernel)⟩
theorem lw_p10 : lw_okq (⟨"SettledDots$Reader", "readRow", "()V"⟩, 9) := ⟨⟨by decide +kernel, by decide +kernel⟩, List.mem_of_getElem? (i := 138) (by decide +kernel), List.mem_of_getElem? (i := 489) (by decide +kernel), List.mem_of_getElem? (i := 490) (by decide +kernel)⟩
theorem lw_p11 : lw_okq (⟨"SettledDots$Reader", "readDot", "()V"⟩, 9) := ⟨⟨by decide +kernel, by decide +kernel⟩, List.mem_of_getElem? (i := 138) (by decide +kernel), List.mem_of_getElem? (i := 494) (by decide +kernel), List.mem_of_getElem? (i := 495) (by decide +kernel)⟩
theorem lw_p12 : lw_okq (⟨"SettledDots", "startAnew", "()V"⟩, 13) := ⟨⟨by decide +kernel, by decide +kernel⟩, List.mem_of_getElem? (i := 20) (by decide +kernel), List.mem_of_getElem? (i := 513) (by decide +kernel), List.mem_of_getElem? (i := 514) (by decide +kernel)⟩
theorem lw_p13 : lw_okq (⟨"SettledDots", "forgetWhatWasSeen", "()V"⟩, 13) := ⟨⟨by decide +kernel, by decide +kernel⟩, List.mem_of_getElem? (i := 20) (by decide +kernel), List.mem_of_getElem? (i := 525) (by decide +kernel), List.mem_of_getElem? (i := 526) (by decide +kernel)⟩
theorem lw_p14 : lw_okq (⟨"SettledDots", "beginAct", "()LSettledDots$Scene;"⟩, 13) := ⟨⟨by decide +kernel, by decide +kernel⟩, List.mem_of_getElem? (i := 20) (by decide +kernel), List.mem_of_getElem? (i := 546) (by decide +kernel), List.mem_of_getElem? (i := 547) (by decide +kernel)⟩
theorem lw_p15 : lw_okq (⟨"SettledDots$Past", "slotOf", "(I)I"⟩, 4) := ⟨⟨by decide +kernel, by decide +kernel⟩, List.mem_of_getElem? (i := 177) (by decide +kernel), List.mem_of_getElem? (i := 554) (by decide +kernel), List.mem_of_getElem? (i := 555) (by decide +kernel)⟩
def lw_privs_1 : List (MethodName × Nat) := [(⟨"SettledDots$Reader", "next", "()V"⟩, 9), (⟨"SettledDots$Reader", "isAtLetter", "()Z"⟩, 9), (⟨"SettledDots$Reader", "isWord", "(Ljava/lang/String;)Z"⟩, 9), (⟨"SettledDots$Reader", "readSize", "()V"⟩, 9), (⟨"SettledDots$Reader", "readNumber", "(II)I"⟩, 9), (⟨"SettledDots$Reader", "expect", "(I)Z"⟩, 9), (⟨"SettledDots$Reader", "fail", "(I)V"⟩, 9), (⟨"SettledDots$Reader", "valueOfDigits", "()I"⟩, 9), (⟨"SettledDots$Reader", "readSign", "()V"⟩, 9), (⟨"SettledDots$Reader", "readLine", "()V"⟩, 9), (⟨"SettledDots$Reader", "readRow", "()V"⟩, 9), (⟨"SettledDots$Reader", "readDot", "()V"⟩, 9), (⟨"SettledDots", "startAnew", "()V"⟩, 13), (⟨"SettledDots", "forgetWhatWasSeen", "()V"⟩, 13), (⟨"SettledDots", "beginAct", "()LSettledDots$Scene;"⟩, 13), (⟨"SettledDots$Past", "slotOf", "(I)I"⟩, 4)]
theorem lw_r1 : ∀ q ∈ lw_privs_1, lw_okq q := List.forall_mem_cons.mpr ⟨lw_p0, List.forall_mem_cons.mpr ⟨lw_p1, List.forall_mem_cons.mpr ⟨lw_p2, List.forall_mem_cons.mpr ⟨lw_p3, List.forall_mem_cons.mpr ⟨lw_p4, List.forall_mem_cons.mpr ⟨lw_p5, List.forall_mem_cons.mpr ⟨lw_p6, List.forall_mem_cons.mpr ⟨lw_p7, List.forall_mem_cons.mpr ⟨lw_p8, List.forall_mem_cons.mpr ⟨lw_p9, List.forall_mem_cons.mpr ⟨lw_p10, List.forall_mem_cons.mpr ⟨lw_p11, List.forall_mem_cons.mpr ⟨lw_p12, List.forall_mem_cons.mpr ⟨lw_p13, List.forall_mem_cons.mpr ⟨lw_p14, List.forall_mem_cons.mpr ⟨lw_p15, fun _ h => absurd h List.not_mem_nil⟩⟩⟩⟩⟩⟩⟩⟩⟩⟩⟩⟩⟩⟩⟩⟩
theorem lw_p16 : lw_okq (⟨"SettledDots$Scene", "drawBelow", "(I)I"⟩, 8) := ⟨⟨by decide +kernel, by decide +kernel⟩, List.mem_of_getElem? (i := 28) (by decide +kernel), List.mem_of_getElem? (i := 611) (by decide +kernel), List.mem_of_getElem? (i := 612) (by decide +kernel)⟩
theorem lw_p17 : lw_okq (⟨"SettledDots", "upToDate", "()LSettledDots$Field;"⟩, 13) := ⟨⟨by decide +kernel, by decide +kernel⟩, List.mem_of_getElem? (i := 20) (by decide +kernel), List.mem_of_getElem? (i := 643) (by decide +kernel), List.mem_of_getElem? (i := 644) (by decide +kernel)⟩
theorem lw_p18 : lw_okq (⟨"SettledDots$Field", "wipeOwners", "()V"⟩, 10) := ⟨⟨by decide +kernel, by decide +kernel⟩, List.mem_of_getElem? (i := 87) (by decide +kernel), List.mem_of_getElem? (i := 651) (by decide +kernel), List.mem_of_getElem? (i := 652) (by decide +kernel)⟩
theorem lw_p19 : lw_okq (⟨"SettledDots$Field", "offer", "(ILSettledDots$Scene;)V"⟩, 10) := ⟨⟨by decide +kernel, by decide +kernel⟩, List.mem_of_getElem? (i := 87) (by decide +kernel), List.mem_of_getElem? (i := 659) (by decide +kernel), List.mem_of_getElem? (i := 660) (by decide +kernel)⟩
theorem lw_p20 : lw_okq (⟨"SettledDots$Field", "addUp", "(LSettledDots$Scene;)V"⟩, 10) := ⟨⟨by decide +kernel, by decide +kernel⟩, List.mem_of_getElem? (i := 87) (by decide +kernel), List.mem_of_getElem? (i := 663) (by decide +kernel), List.mem_of_getElem? (i := 664) (by decide +kernel)⟩
theorem lw_p21 : lw_okq (⟨"SettledDots$Field", "addCell", "(IIII)V"⟩, 10) := ⟨⟨by decide +kernel, by decide +kernel⟩, List.mem_of_getElem? (i := 87) (by decide +kernel), List.mem_of_getElem? (i := 667) (by decide +kernel), List.mem_of_getElem? (i := 668) (by decide +kernel)⟩
theorem lw_p22 : lw_okq (⟨"SettledDots", "countLeft", "(LSettledDots$Field;I)I"⟩, 13) := ⟨⟨by decide +kernel, by decide +kernel⟩, List.mem_of_getElem? (i := 20) (by decide +kernel), List.mem_of_getElem? (i := 698) (by decide +kernel), List.mem_of_getElem? (i := 699) (by decide +kernel)⟩
theorem lw_p23 : lw_okq (⟨"SettledDots", "planAdded", "(LSettledDots$Field;II)I"⟩, 13) := ⟨⟨by decide +kernel, by decide +kernel⟩, List.mem_of_getElem? (i := 20) (by decide +kernel), List.mem_of_getElem? (i := 702) (by decide +kernel), List.mem_of_getElem? (i := 703) (by decide +kernel)⟩
theorem lw_p24 : lw_okq (⟨"SettledDots$Past", "swap", "(ILSettledDots$Scene;)LSettledDots$Scene;"⟩, 4) := ⟨⟨by decide +kernel, by decide +kernel⟩, List.mem_of_getElem? (i := 177) (by decide +kernel), List.mem_of_getElem? (i := 725) (by decide +kernel), List.mem_of_getElem? (i := 726) (by decide +kernel)⟩
theorem lw_p25 : lw_okq (⟨"SettledDots$Scene", "spotColumn", "(I)I"⟩, 8) := ⟨⟨by decide +kernel, by decide +kernel⟩, List.mem_of_getElem? (i := 28) (by decide +kernel), List.mem_of_getElem? (i := 745) (by decide +kernel), List.mem_of_getElem? (i := 746) (by decide +kernel)⟩
theorem lw_p26 : lw_okq (⟨"SettledDots$Scene", "spotRow", "(I)I"⟩, 8) := ⟨⟨by decide +kernel, by decide +kernel⟩, List.mem_of_getElem? (i := 28) (by decide +kernel), List.mem_of_getElem? (i := 752) (by decide +kernel), List.mem_of_getElem? (i := 753) (by decide +kernel)⟩
theorem lw_p27 : lw_okq (⟨"SettledDots$Links", "clearPiece", "(ILSettledDots$Scene;)V"⟩, 6) := ⟨⟨by decide +kernel, by decide +kernel⟩, List.mem_of_getElem? (i := 278) (by decide +kernel), List.mem_of_getElem? (i := 761) (by decide +kernel), List.mem_of_getElem? (i := 762) (by decide +kernel)⟩
theorem lw_p28 : lw_okq (⟨"SettledDots$Links", "push", "(I)V"⟩, 6) := ⟨⟨by decide +kernel, by decide +kernel⟩, List.mem_of_getElem? (i := 278) (by decide +kernel), List.mem_of_getElem? (i := 765) (by decide +kernel), List.mem_of_getElem? (i := 766) (by decide +kernel)⟩
theorem lw_p29 : lw_okq (⟨"SettledDots", "firstGreatest", "([I)I"⟩, 13) := ⟨⟨by decide +kernel, by decide +kernel⟩, List.mem_of_getElem? (i := 20) (by decide +kernel), List.mem_of_getElem? (i := 834) (by decide +kernel), List.mem_of_getElem? (i := 835) (by decide +kernel)⟩
theorem lw_p30 : lw_okq (⟨"SettledDots", "leastOf", "([I)I"⟩, 13) := ⟨⟨by decide +kernel, by decide +kernel⟩, List.mem_of_getElem? (i := 20) (by decide +kernel), List.mem_of_getElem? (i := 838) (by decide +kernel), List.mem_of_getElem? (i := 839) (by decide +kernel)⟩
theorem lw_p31 : lw_okq (⟨"SettledDots$Prices", "sumWithOneAt", "(IILSettledDots$Scene;)I"⟩, 3) := ⟨⟨by decide +kernel, by decide +kernel⟩, List.mem_of_getElem? (i := 260) (by decide +kernel), List.mem_of_getElem? (i := 877) (by decide +kernel), List.mem_of_getElem? (i := 878) (by decide +kernel)⟩
def lw_privs_2 : List (MethodName × Nat) := [(⟨"SettledDots$Scene", "drawBelow", "(I)I"⟩, 8), (⟨"SettledDots", "upToDate", "()LSettledDots$Field;"⟩, 13), (⟨"SettledDots$Field", "wipeOwners", "()V"⟩, 10), (⟨"SettledDots$Field", "offer", "(ILSettledDots$Scene;)V"⟩, 10), (⟨"SettledDots$Field", "addUp", "(LSettledDots$Scene;)V"⟩, 10), (⟨"SettledDots$Field", "addCell", "(IIII)V"⟩, 10), (⟨"SettledDots", "countLeft", "(LSettledDots$Field;I)I"⟩, 13), (⟨"SettledDots", "planAdded", "(LSettledDots$Field;II)I"⟩, 13), (⟨"SettledDots$Past", "swap", "(ILSettledDots$Scene;)LSettledDots$Scene;"⟩, 4), (⟨"SettledDots$Scene", "spotColumn", "(I)I"⟩, 8), (⟨"SettledDots$Scene", "spotRow", "(I)I"⟩, 8), (⟨"SettledDots$Links", "clearPiece", "(ILSettledDots$Scene;)V"⟩, 6), (⟨"SettledDots$Links", "push", "(I)V"⟩, 6), (⟨"SettledDots", "firstGreatest", "([I)I"⟩, 13), (⟨"SettledDots", "leastOf", "([I)I"⟩, 13), (⟨"SettledDots$Prices", "sumWithOneAt", "(IILSettledDots$Scene;)I"⟩, 3)]
theorem lw_r2 : ∀ q ∈ lw_privs_2, lw_okq q := List.forall_mem_cons.mpr ⟨lw_p16, List.forall_mem_cons.mpr ⟨lw_p17, List.forall_mem_cons.mpr ⟨lw_p18, List.forall_mem_cons.mpr ⟨lw_p19, List.forall_mem_cons.mpr ⟨lw_p20, List.forall_mem_cons.mpr ⟨lw_p21, List.forall_mem_cons.mpr ⟨lw_p22, List.forall_mem_cons.mpr ⟨lw_p23, List.forall_mem_cons.mpr ⟨lw_p24, List.forall_mem_cons.mpr ⟨lw_p25, List.forall_mem_cons.mpr ⟨lw_p26, List.forall_mem_cons.mpr ⟨lw_p27, List.forall_mem_cons.mpr ⟨lw_p28, List.forall_mem_cons.mpr ⟨lw_p29, List.forall_mem_cons.mpr ⟨lw_p30, List.forall_mem_cons.mpr ⟨lw_p31, fun _ h => absurd h List.not_mem_nil⟩⟩⟩⟩⟩⟩⟩⟩⟩⟩⟩⟩⟩⟩⟩⟩
theorem lw_p32 : lw_okq (⟨"SettledDots$Links", "join", "(II)V"⟩, 6) := ⟨⟨by decide +kernel, by decide +kernel⟩, List.mem_of_getElem? (i := 278) (by decide +kernel), List.mem_of_getElem? (i := 896) (by decide +kernel), List.mem_of_getElem? (i := 897) (by decide +kernel)⟩
theorem lw_p33 : lw_okq (⟨"SettledDots", "cellsOfShade", "(I)I"⟩, 13) := ⟨⟨by decide +kernel, by decide +kernel⟩, List.mem_of_getElem? (i := 20) (by decide +kernel), List.mem_of_getElem? (i := 930) (by decide +kernel), List.mem_of_getElem? (i := 931) (by decide +kernel)⟩
theorem lw_p34 : lw_okq (⟨"SettledDots", "spotsOfShade", "(I)I"⟩, 13) := ⟨⟨by decide +kernel, by decide +kernel⟩, List.mem_of_getElem? (i := 20) (by decide +kernel), List.mem_of_getElem? (i := 935) (by decide +kernel), List.mem_of_getElem? (i := 936) (by decide +kernel)⟩
theorem lw_p35 : lw_okq (⟨"SettledDots", "ownersOfShade", "(I)I"⟩, 13) := ⟨⟨by decide +kernel, by decide +kernel⟩, List.mem_of_getElem? (i := 20) (by decide +kernel), List.mem_of_getElem? (i := 939) (by decide +kernel), List.mem_of_getElem? (i := 940) (by decide +kernel)⟩
theorem lw_p36 : lw_okq (⟨"SettledDots", "costOfShade", "(I)I"⟩, 13) := ⟨⟨by decide +kernel, by decide +kernel⟩, List.mem_of_getElem? (i := 20) (by decide +kernel), List.mem_of_getElem? (i := 947) (by decide +kernel), List.mem_of_getElem? (i := 948) (by decide +kernel)⟩
theorem lw_p37 : lw_okq (⟨"SettledDots", "emptyDots", "()I"⟩, 13) := ⟨⟨by decide +kernel, by decide +kernel⟩, List.mem_of_getElem? (i := 20) (by decide +kernel), List.mem_of_getElem? (i := 1067) (by decide +kernel), List.mem_of_getElem? (i := 1068) (by decide +kernel)⟩
theorem lw_p38 : lw_okq (⟨"SettledDotsModel", "four", "(I)V"⟩, 40) := ⟨⟨by decide +kernel, by decide +kernel⟩, List.mem_of_getElem? (i := 1071) (by decide +kernel), List.mem_of_getElem? (i := 1202) (by decide +kernel), List.mem_of_getElem? (i := 1203) (by decide +kernel)⟩
theorem lw_p39 : lw_okq (⟨"SettledDotsModel", "goOn", "()V"⟩, 40) := ⟨⟨by decide +kernel, by decide +kernel⟩, List.mem_of_getElem? (i := 1071) (by decide +kernel), List.mem_of_getElem? (i := 1217) (by decide +kernel), List.mem_of_getElem? (i := 1218) (by decide +kernel)⟩
theorem lw_p40 : lw_okq (⟨"SettledDotsModel", "here", "(I)I"⟩, 40) := ⟨⟨by decide +kernel, by decide +kernel⟩, List.mem_of_getElem? (i := 1071) (by decide +kernel), List.mem_of_getElem? (i := 1221) (by decide +kernel), List.mem_of_getElem? (i := 1222) (by decide +kernel)⟩
theorem lw_p41 : lw_okq (⟨"SettledDotsModel", "isWord", "(J)Z"⟩, 40) := ⟨⟨by decide +kernel, by decide +kernel⟩, List.mem_of_getElem? (i := 1071) (by decide +kernel), List.mem_of_getElem? (i := 1232) (by decide +kernel), List.mem_of_getElem? (i := 1233) (by decide +kernel)⟩
theorem lw_p42 : lw_okq (⟨"SettledDotsModel", "number", "(II)I"⟩, 40) := ⟨⟨by decide +kernel, by decide +kernel⟩, List.mem_of_getElem? (i := 1071) (by decide +kernel), List.mem_of_getElem? (i := 1236) (by decide +kernel), List.mem_of_getElem? (i := 1237) (by decide +kernel)⟩
theorem lw_p43 : lw_okq (⟨"SettledDotsModel", "wrong", "(I)V"⟩, 40) := ⟨⟨by decide +kernel, by decide +kernel⟩, List.mem_of_getElem? (i := 1071) (by decide +kernel), List.mem_of_getElem? (i := 1240) (by decide +kernel), List.mem_of_getElem? (i := 1241) (by decide +kernel)⟩
theorem lw_p44 : lw_okq (⟨"SettledDotsModel", "isGood", "()Z"⟩, 40) := ⟨⟨by decide +kernel, by decide +kernel⟩, List.mem_of_getElem? (i := 1071) (by decide +kernel), List.mem_of_getElem? (i := 1244) (by decide +kernel), List.mem_of_getElem? (i := 1245) (by decide +kernel)⟩
theorem lw_p45 : lw_okq (⟨"SettledDotsModel", "ends", "()V"⟩, 40) := ⟨⟨by decide +kernel, by decide +kernel⟩, List.mem_of_getElem? (i := 1071) (by decide +kernel), List.mem_of_getElem? (i := 1248) (by decide +kernel), List.mem_of_getElem? (i := 1249) (by decide +kernel)⟩
theorem lw_p46 : lw_okq (⟨"SettledDotsModel", "rowLine", "()V"⟩, 40) := ⟨⟨by decide +kernel, by decide +kernel⟩, List.mem_of_getElem? (i := 1071) (by decide +kernel), List.mem_of_getElem? (i := 1253) (by decide +kernel), List.mem_of_getElem? (i := 1254) (by decide +kernel)⟩
theorem lw_p47 : lw_okq (⟨"SettledDotsModel", "dotLine", "()V"⟩, 40) := ⟨⟨by decide +kernel, by decide +kernel⟩, List.mem_of_getElem? (i := 1071) (by decide +kernel), List.mem_of_getElem? (i := 1258) (by decide +kernel), List.mem_of_getElem? (i := 1259) (by decide +kernel)⟩
def lw_privs_3 : List (MethodName × Nat) := [(⟨"SettledDots$Links", "join", "(II)V"⟩, 6), (⟨"SettledDots", "cellsOfShade", "(I)I"⟩, 13), (⟨"SettledDots", "spotsOfShade", "(I)I"⟩, 13), (⟨"SettledDots", "ownersOfShade", "(I)I"⟩, 13), (⟨"SettledDots", "costOfShade", "(I)I"⟩, 13), (⟨"SettledDots", "emptyDots", "()I"⟩, 13), (⟨"SettledDotsModel", "four", "(I)V"⟩, 40), (⟨"SettledDotsModel", "goOn", "()V"⟩, 40), (⟨"SettledDotsModel", "here", "(I)I"⟩, 40), (⟨"SettledDotsModel", "isWord", "(J)Z"⟩, 40), (⟨"SettledDotsModel", "number", "(II)I"⟩, 40), (⟨"SettledDotsModel", "wrong", "(I)V"⟩, 40), (⟨"SettledDotsModel", "isGood", "()Z"⟩, 40), (⟨"SettledDotsModel", "ends", "()V"⟩, 40), (⟨"SettledDotsModel", "rowLine", "()V"⟩, 40), (⟨"SettledDotsModel", "dotLine", "()V"⟩, 40)]
theorem lw_r3 : ∀ q ∈ lw_privs_3, lw_okq q := List.forall_mem_cons.mpr ⟨lw_p32, List.forall_mem_cons.mpr ⟨lw_p33, List.forall_mem_cons.mpr ⟨lw_p34, List.forall_mem_cons.mpr ⟨lw_p35, List.forall_mem_cons.mpr ⟨lw_p36, List.forall_mem_cons.mpr ⟨lw_p37, List.forall_mem_cons.mpr ⟨lw_p38, List.forall_mem_cons.mpr ⟨lw_p39, List.forall_mem_cons.mpr ⟨lw_p40, List.forall_mem_cons.mpr ⟨lw_p41, List.forall_mem_cons.mpr ⟨lw_p42, List.forall_mem_cons.mpr ⟨lw_p43, List.forall_mem_cons.mpr ⟨lw_p44, List.forall_mem_cons.mpr ⟨lw_p45, List.forall_mem_cons.mpr ⟨lw_p46, List.forall_mem_cons.mpr ⟨lw_p47, fun _ h => absurd h List.not_mem_nil⟩⟩⟩⟩⟩⟩⟩⟩⟩⟩⟩⟩⟩⟩⟩⟩
theorem lw_p48 : lw_okq (⟨"SettledDotsModel", "exchanges", "(I)V"⟩, 40) := ⟨⟨by decide +kernel, by decide +kernel⟩, List.mem_of_getElem? (i := 1071) (by decide +kernel), List.mem_of_getElem? (i := 1270) (by decide +kernel), List.mem_of_getElem? (i := 1271) (by decide +kernel)⟩
theorem lw_p49 : lw_okq (⟨"SettledDotsModel", "isCell", "(II)Z"⟩, 40) := ⟨⟨by decide +kernel, by decide +kernel⟩, List.mem_of_getElem? (i := 1071) (by decide +kernel), List.mem_of_getElem? (i := 1282) (by decide +kernel), List.mem_of_getElem? (i := 1283) (by decide +kernel)⟩
theorem lw_p50 : lw_okq (⟨"SettledDotsModel", "wide", "()I"⟩, 40) := ⟨⟨by decide +kernel, by decide +kernel⟩, List.mem_of_getElem? (i := 1071) (by decide +kernel), List.mem_of_getElem? (i := 1286) (by decide +kernel), List.mem_of_getElem? (i := 1287) (by decide +kernel)⟩
theorem lw_p51 : lw_okq (⟨"SettledDotsModel", "high", "()I"⟩, 40) := ⟨⟨by decide +kernel, by decide +kernel⟩, List.mem_of_getElem? (i := 1071) (by decide +kernel), List.mem_of_getElem? (i := 1290) (by decide +kernel), List.mem_of_getElem? (i := 1291) (by decide +kernel)⟩
theorem lw_p52 : lw_okq (⟨"SettledDotsModel", "dots", "()I"⟩, 40) := ⟨⟨by decide +kernel, by decide +kernel⟩, List.mem_of_getElem? (i := 1071) (by decide +kernel), List.mem_of_getElem? (i := 1294) (by decide +kernel), List.mem_of_getElem? (i := 1295) (by decide +kernel)⟩
theorem lw_p53 : lw_okq (⟨"SettledDotsModel", "otherAct", "()V"⟩, 40) := ⟨⟨by decide +kernel, by decide +kernel⟩, List.mem_of_getElem? (i := 1071) (by decide +kernel), List.mem_of_getElem? (i := 1298) (by decide +kernel), List.mem_of_getElem? (i := 1299) (by decide +kernel)⟩
theorem lw_p54 : lw_okq (⟨"SettledDotsModel", "act", "()V"⟩, 40) := ⟨⟨by decide +kernel, by decide +kernel⟩, List.mem_of_getElem? (i := 1071) (by decide +kernel), List.mem_of_getElem? (i := 1302) (by decide +kernel), List.mem_of_getElem? (i := 1303) (by decide +kernel)⟩
theorem lw_p55 : lw_okq (⟨"SettledDotsModel", "comes", "(II)V"⟩, 40) := ⟨⟨by decide +kernel, by decide +kernel⟩, List.mem_of_getElem? (i := 1071) (by decide +kernel), List.mem_of_getElem? (i := 1306) (by decide +kernel), List.mem_of_getElem? (i := 1307) (by decide +kernel)⟩
theorem lw_p56 : lw_okq (⟨"SettledDotsModel", "lays", "(IIII)V"⟩, 40) := ⟨⟨by decide +kernel, by decide +kernel⟩, List.mem_of_getElem? (i := 1071) (by decide +kernel), List.mem_of_getElem? (i := 1310) (by decide +kernel), List.mem_of_getElem? (i := 1311) (by decide +kernel)⟩
theorem lw_p57 : lw_okq (⟨"SettledDotsModel", "isDot", "(I)Z"⟩, 40) := ⟨⟨by decide +kernel, by decide +kernel⟩, List.mem_of_getElem? (i := 1071) (by decide +kernel), List.mem_of_getElem? (i := 1324) (by decide +kernel), List.mem_of_getElem? (i := 1325) (by decide +kernel)⟩
theorem lw_p58 : lw_okq (⟨"SettledDotsModel", "goes", "(I)V"⟩, 40) := ⟨⟨by decide +kernel, by decide +kernel⟩, List.mem_of_getElem? (i := 1071) (by decide +kernel), List.mem_of_getElem? (i := 1328) (by decide +kernel), List.mem_of_getElem? (i := 1329) (by decide +kernel)⟩
theorem lw_p59 : lw_okq (⟨"SettledDotsModel", "liesAt", "(III)Z"⟩, 40) := ⟨⟨by decide +kernel, by decide +kernel⟩, List.mem_of_getElem? (i := 1071) (by decide +kernel), List.mem_of_getElem? (i := 1336) (by decide +kernel), List.mem_of_getElem? (i := 1337) (by decide +kernel)⟩
theorem lw_p60 : lw_okq (⟨"SettledDotsModel", "xOf", "(I)I"⟩, 40) := ⟨⟨by decide +kernel, by decide +kernel⟩, List.mem_of_getElem? (i := 1071) (by decide +kernel), List.mem_of_getElem? (i := 1340) (by decide +kernel), List.mem_of_getElem? (i := 1341) (by decide +kernel)⟩
theorem lw_p61 : lw_okq (⟨"SettledDotsModel", "under", "(I)J"⟩, 40) := ⟨⟨by decide +kernel, by decide +kernel⟩, List.mem_of_getElem? (i := 1071) (by decide +kernel), List.mem_of_getElem? (i := 1344) (by decide +kernel), List.mem_of_getElem? (i := 1345) (by decide +kernel)⟩
theorem lw_p62 : lw_okq (⟨"SettledDotsModel", "yOf", "(I)I"⟩, 40) := ⟨⟨by decide +kernel, by decide +kernel⟩, List.mem_of_getElem? (i := 1071) (by decide +kernel), List.mem_of_getElem? (i := 1348) (by decide +kernel), List.mem_of_getElem? (i := 1349) (by decide +kernel)⟩
theorem lw_p63 : lw_okq (⟨"SettledDotsModel", "cells", "()I"⟩, 40) := ⟨⟨by decide +kernel, by decide +kernel⟩, List.mem_of_getElem? (i := 1071) (by decide +kernel), List.mem_of_getElem? (i := 1357) (by decide +kernel), List.mem_of_getElem? (i := 1358) (by decide +kernel)⟩
def lw_privs_4 : List (MethodName × Nat) := [(⟨"SettledDotsModel", "exchanges", "(I)V"⟩, 40), (⟨"SettledDotsModel", "isCell", "(II)Z"⟩, 40), (⟨"SettledDotsModel", "wide", "()I"⟩, 40), (⟨"SettledDotsModel", "high", "()I"⟩, 40), (⟨"SettledDotsModel", "dots", "()I"⟩, 40), (⟨"SettledDotsModel", "otherAct", "()V"⟩, 40), (⟨"SettledDotsModel", "act", "()V"⟩, 40), (⟨"SettledDotsModel", "comes", "(II)V"⟩, 40), (⟨"SettledDotsModel", "lays", "(IIII)V"⟩, 40), (⟨"SettledDotsModel", "isDot", "(I)Z"⟩, 40), (⟨"SettledDotsModel", "goes", "(I)V"⟩, 40), (⟨"SettledDotsModel", "liesAt", "(III)Z"⟩, 40), (⟨"SettledDotsModel", "xOf", "(I)I"⟩, 40), (⟨"SettledDotsModel", "under", "(I)J"⟩, 40), (⟨"SettledDotsModel", "yOf", "(I)I"⟩, 40), (⟨"SettledDotsModel", "cells", "()I"⟩, 40)]
theorem lw_r4 : ∀ q ∈ lw_privs_4, lw_okq q := List.forall_mem_cons.mpr ⟨lw_p48, List.forall_mem_cons.mpr ⟨lw_p49, List.forall_mem_cons.mpr ⟨lw_p50, List.forall_mem_cons.mpr ⟨lw_p51, List.forall_mem_cons.mpr ⟨lw_p52, List.forall_mem_cons.mpr ⟨lw_p53, List.forall_mem_cons.mpr ⟨lw_p54, List.forall_mem_cons.mpr ⟨lw_p55, List.forall_mem_cons.mpr ⟨lw_p56, List.forall_mem_cons.mpr ⟨lw_p57, List.forall_mem_cons.mpr ⟨lw_p58, List.forall_mem_cons.mpr ⟨lw_p59, List.forall_mem_cons.mpr ⟨lw_p60, List.forall_mem_cons.mpr ⟨lw_p61, List.forall_mem_cons.mpr ⟨lw_p62, List.forall_mem_cons.mpr ⟨lw_p63, fun _ h => absurd h List.not_mem_nil⟩⟩⟩⟩⟩⟩⟩⟩⟩⟩⟩⟩⟩⟩⟩⟩
theorem lw_p64 : lw_okq (⟨"SettledDotsModel", "weight", "(I)I"⟩, 40) := ⟨⟨by decide +kernel, by decide +kernel⟩, List.mem_of_getElem? (i := 1071) (by decide +kernel), List.mem_of_getElem? (i := 1361) (by decide +kernel), List.mem_of_getElem? (i := 1362) (by decide +kernel)⟩
theorem lw_p65 : lw_okq (⟨"SettledDotsModel", "isBare", "(I)Z"⟩, 40) := ⟨⟨by decide +kernel, by decide +kernel⟩, List.mem_of_getElem? (i := 1071) (by decide +kernel), List.mem_of_getElem? (i := 1365) (by decide +kernel), List.mem_of_getElem? (i := 1366) (by decide +kernel)⟩
theorem lw_p66 : lw_okq (⟨"SettledDotsModel", "drawsOne", "()V"⟩, 40) := ⟨⟨by decide +kernel, by decide +kernel⟩, List.mem_of_getElem? (i := 1071) (by decide +kernel), List.mem_of_getElem? (i := 1372) (by decide +kernel), List.mem_of_getElem? (i := 1373) (by decide +kernel)⟩
theorem lw_p67 : lw_okq (⟨"SettledDotsModel", "drawOf", "(I)I"⟩, 40) := ⟨⟨by decide +kernel, by decide +kernel⟩, List.mem_of_getElem? (i := 1071) (by decide +kernel), List.mem_of_getElem? (i := 1376) (by decide +kernel), List.mem_of_getElem? (i := 1377) (by decide +kernel)⟩
theorem lw_p68 : lw_okq (⟨"SettledDotsModel", "numberOf", "(II)I"⟩, 40) := ⟨⟨by decide +kernel, by decide +kernel⟩, List.mem_of_getElem? (i := 1071) (by decide +kernel), List.mem_of_getElem? (i := 1393) (by decide +kernel), List.mem_of_getElem? (i := 1394) (by decide +kernel)⟩
theorem lw_p69 : lw_okq (⟨"SettledDotsModel", "allCost", "()I"⟩, 40) := ⟨⟨by decide +kernel, by decide +kernel⟩, List.mem_of_getElem? (i := 1071) (by decide +kernel), List.mem_of_getElem? (i := 1406) (by decide +kernel), List.mem_of_getElem? (i := 1407) (by decide +kernel)⟩
theorem lw_p70 : lw_okq (⟨"SettledDotsModel", "costBut", "(I)J"⟩, 40) := ⟨⟨by decide +kernel, by decide +kernel⟩, List.mem_of_getElem? (i := 1071) (by decide +kernel), List.mem_of_getElem? (i := 1410) (by decide +kernel), List.mem_of_getElem? (i := 1411) (by decide +kernel)⟩
theorem lw_p71 : lw_okq (⟨"SettledDotsModel", "ownerBut", "(II)I"⟩, 40) := ⟨⟨by decide +kernel, by decide +kernel⟩, List.mem_of_getElem? (i := 1071) (by decide +kernel), List.mem_of_getElem? (i := 1414) (by decide +kernel), List.mem_of_getElem? (i := 1415) (by decide +kernel)⟩
theorem lw_p72 : lw_okq (⟨"SettledDotsModel", "isNearer", "(III)Z"⟩, 40) := ⟨⟨by decide +kernel, by decide +kernel⟩, List.mem_of_getElem? (i := 1071) (by decide +kernel), List.mem_of_getElem? (i := 1418) (by decide +kernel), List.mem_of_getElem? (i := 1419) (by decide +kernel)⟩
theorem lw_p73 : lw_okq (⟨"SettledDotsModel", "upper", "(II)J"⟩, 40) := ⟨⟨by decide +kernel, by decide +kernel⟩, List.mem_of_getElem? (i := 1071) (by decide +kernel), List.mem_of_getElem? (i := 1422) (by decide +kernel), List.mem_of_getElem? (i := 1423) (by decide +kernel)⟩
theorem lw_p74 : lw_okq (⟨"SettledDotsModel", "lower", "(I)J"⟩, 40) := ⟨⟨by decide +kernel, by decide +kernel⟩, List.mem_of_getElem? (i := 1071) (by decide +kernel), List.mem_of_getElem? (i := 1426) (by decide +kernel), List.mem_of_getElem? (i := 1427) (by decide +kernel)⟩
theorem lw_p75 : lw_okq (⟨"SettledDotsModel", "costBy", "(II)J"⟩, 40) := ⟨⟨by decide +kernel, by decide +kernel⟩, List.mem_of_getElem? (i := 1071) (by decide +kernel), List.mem_of_getElem? (i := 1430) (by decide +kernel), List.mem_of_getElem? (i := 1431) (by decide +kernel)⟩
theorem lw_p76 : lw_okq (⟨"SettledDotsModel", "round", "()V"⟩, 40) := ⟨⟨by decide +kernel, by decide +kernel⟩, List.mem_of_getElem? (i := 1071) (by decide +kernel), List.mem_of_getElem? (i := 1435) (by decide +kernel), List.mem_of_getElem? (i := 1436) (by decide +kernel)⟩
theorem lw_p77 : lw_okq (⟨"SettledDotsModel", "laysLoads", "()V"⟩, 40) := ⟨⟨by decide +kernel, by decide +kernel⟩, List.mem_of_getElem? (i := 1071) (by decide +kernel), List.mem_of_getElem? (i := 1439) (by decide +kernel), List.mem_of_getElem? (i := 1440) (by decide +kernel)⟩
theorem lw_p78 : lw_okq (⟨"SettledDotsModel", "laysOwners", "()V"⟩, 40) := ⟨⟨by decide +kernel, by decide +kernel⟩, List.mem_of_getElem? (i := 1071) (by decide +kernel), List.mem_of_getElem? (i := 1443) (by decide +kernel), List.mem_of_getElem? (i := 1444) (by decide +kernel)⟩
theorem lw_p79 : lw_okq (⟨"SettledDotsModel", "toMiddle", "(I)V"⟩, 40) := ⟨⟨by decide +kernel, by decide +kernel⟩, List.mem_of_getElem? (i := 1071) (by decide +kernel), List.mem_of_getElem? (i := 1447) (by decide +kernel), List.mem_of_getElem? (i := 1448) (by decide +kernel)⟩
def lw_privs_5 : List (MethodName × Nat) := [(⟨"SettledDotsModel", "weight", "(I)I"⟩, 40), (⟨"SettledDotsModel", "isBare", "(I)Z"⟩, 40), (⟨"SettledDotsModel", "drawsOne", "()V"⟩, 40), (⟨"SettledDotsModel", "drawOf", "(I)I"⟩, 40), (⟨"SettledDotsModel", "numberOf", "(II)I"⟩, 40), (⟨"SettledDotsModel", "allCost", "()I"⟩, 40), (⟨"SettledDotsModel", "costBut", "(I)J"⟩, 40), (⟨"SettledDotsModel", "ownerBut", "(II)I"⟩, 40), (⟨"SettledDotsModel", "isNearer", "(III)Z"⟩, 40), (⟨"SettledDotsModel", "upper", "(II)J"⟩, 40), (⟨"SettledDotsModel", "lower", "(I)J"⟩, 40), (⟨"SettledDotsModel", "costBy", "(II)J"⟩, 40), (⟨"SettledDotsModel", "round", "()V"⟩, 40), (⟨"SettledDotsModel", "laysLoads", "()V"⟩, 40), (⟨"SettledDotsModel", "laysOwners", "()V"⟩, 40), (⟨"SettledDotsModel", "toMiddle", "(I)V"⟩, 40)]
theorem lw_r5 : ∀ q ∈ lw_privs_5, lw_okq q := List.forall_mem_cons.mpr ⟨lw_p64, List.forall_mem_cons.mpr ⟨lw_p65, List.forall_mem_cons.mpr ⟨lw_p66, List.forall_mem_cons.mpr ⟨lw_p67, List.forall_mem_cons.mpr ⟨lw_p68, List.forall_mem_cons.mpr ⟨lw_p69, List.forall_mem_cons.mpr ⟨lw_p70, List.forall_mem_cons.mpr ⟨lw_p71, List.forall_mem_cons.mpr ⟨lw_p72, List.forall_mem_cons.mpr ⟨lw_p73, List.forall_mem_cons.mpr ⟨lw_p74, List.forall_mem_cons.mpr ⟨lw_p75, List.forall_mem_cons.mpr ⟨lw_p76, List.forall_mem_cons.mpr ⟨lw_p77, List.forall_mem_cons.mpr ⟨lw_p78, List.forall_mem_cons.mpr ⟨lw_p79, fun _ h => absurd h List.not_mem_nil⟩⟩⟩⟩⟩⟩⟩⟩⟩⟩⟩⟩⟩⟩⟩⟩
theorem lw_p80 : lw_okq (⟨"SettledDotsModel", "dearest", "(I)I"⟩, 40) := ⟨⟨by decide +kernel, by decide +kernel⟩, List.mem_of_getElem? (i := 1071) (by decide +kernel), List.mem_of_getElem? (i := 1451) (by decide +kernel), List.mem_of_getElem? (i := 1452) (by decide +kernel)⟩
theorem lw_p81 : lw_okq (⟨"SettledDotsModel", "nearestOn", "(I)I"⟩, 40) := ⟨⟨by decide +kernel, by decide +kernel⟩, List.mem_of_getElem? (i := 1071) (by decide +kernel), List.mem_of_getElem? (i := 1455) (by decide +kernel), List.mem_of_getElem? (i := 1456) (by decide +kernel)⟩
theorem lw_p82 : lw_okq (⟨"SettledDotsModel", "isElsewhere", "([III)Z"⟩, 40) := ⟨⟨by decide +kernel, by decide +kernel⟩, List.mem_of_getElem? (i := 1071) (by decide +kernel), List.mem_of_getElem? (i := 1459) (by decide +kernel), List.mem_of_getElem? (i := 1460) (by decide +kernel)⟩
theorem lw_p83 : lw_okq (⟨"SettledDotsModel", "notes", "(I)V"⟩, 40) := ⟨⟨by decide +kernel, by decide +kernel⟩, List.mem_of_getElem? (i := 1071) (by decide +kernel), List.mem_of_getElem? (i := 1463) (by decide +kernel), List.mem_of_getElem? (i := 1464) (by decide +kernel)⟩
theorem lw_p84 : lw_okq (⟨"SettledDotsModel", "puts", "()V"⟩, 40) := ⟨⟨by decide +kernel, by decide +kernel⟩, List.mem_of_getElem? (i := 1071) (by decide +kernel), List.mem_of_getElem? (i := 1475) (by decide +kernel), List.mem_of_getElem? (i := 1476) (by decide +kernel)⟩
theorem lw_p85 : lw_okq (⟨"SettledDotsModel", "takesBack", "()V"⟩, 40) := ⟨⟨by decide +kernel, by decide +kernel⟩, List.mem_of_getElem? (i := 1071) (by decide +kernel), List.mem_of_getElem? (i := 1479) (by decide +kernel), List.mem_of_getElem? (i := 1480) (by decide +kernel)⟩
theorem lw_p86 : lw_okq (⟨"SettledDotsModel", "costOf", "(I)I"⟩, 40) := ⟨⟨by decide +kernel, by decide +kernel⟩, List.mem_of_getElem? (i := 1071) (by decide +kernel), List.mem_of_getElem? (i := 1503) (by decide +kernel), List.mem_of_getElem? (i := 1504) (by decide +kernel)⟩
theorem lw_p87 : lw_okq (⟨"SettledDotsModel", "spotOf", "(I)I"⟩, 40) := ⟨⟨by decide +kernel, by decide +kernel⟩, List.mem_of_getElem? (i := 1071) (by decide +kernel), List.mem_of_getElem? (i := 1507) (by decide +kernel), List.mem_of_getElem? (i := 1508) (by decide +kernel)⟩
theorem lw_p88 : lw_okq (⟨"SettledDotsModel", "piecesOf", "(I)I"⟩, 40) := ⟨⟨by decide +kernel, by decide +kernel⟩, List.mem_of_getElem? (i := 1071) (by decide +kernel), List.mem_of_getElem? (i := 1511) (by decide +kernel), List.mem_of_getElem? (i := 1512) (by decide +kernel)⟩
theorem lw_p89 : lw_okq (⟨"SettledDotsModel", "meets", "(I)V"⟩, 40) := ⟨⟨by decide +kernel, by decide +kernel⟩, List.mem_of_getElem? (i := 1071) (by decide +kernel), List.mem_of_getElem? (i := 1515) (by decide +kernel), List.mem_of_getElem? (i := 1516) (by decide +kernel)⟩
theorem lw_p90 : lw_okq (⟨"SettledDotsModel", "areBeside", "(II)Z"⟩, 40) := ⟨⟨by decide +kernel, by decide +kernel⟩, List.mem_of_getElem? (i := 1071) (by decide +kernel), List.mem_of_getElem? (i := 1519) (by decide +kernel), List.mem_of_getElem? (i := 1520) (by decide +kernel)⟩
theorem lw_p91 : lw_okq (⟨"SettledDotsModel", "spotsAt", "(I)I"⟩, 40) := ⟨⟨by decide +kernel, by decide +kernel⟩, List.mem_of_getElem? (i := 1071) (by decide +kernel), List.mem_of_getElem? (i := 1527) (by decide +kernel), List.mem_of_getElem? (i := 1528) (by decide +kernel)⟩
theorem lw_p92 : lw_okq (⟨"SettledDotsModel", "touches", "(II)I"⟩, 40) := ⟨⟨by decide +kernel, by decide +kernel⟩, List.mem_of_getElem? (i := 1071) (by decide +kernel), List.mem_of_getElem? (i := 1565) (by decide +kernel), List.mem_of_getElem? (i := 1566) (by decide +kernel)⟩
theorem lw_p93 : lw_okq (⟨"SettledDotsModel", "ownersOf", "(I)I"⟩, 40) := ⟨⟨by decide +kernel, by decide +kernel⟩, List.mem_of_getElem? (i := 1071) (by decide +kernel), List.mem_of_getElem? (i := 1577) (by decide +kernel), List.mem_of_getElem? (i := 1578) (by decide +kernel)⟩
theorem lw_p94 : lw_okq (⟨"SettledDotsModel", "laysSpots", "()V"⟩, 40) := ⟨⟨by decide +kernel, by decide +kernel⟩, List.mem_of_getElem? (i := 1071) (by decide +kernel), List.mem_of_getElem? (i := 1585) (by decide +kernel), List.mem_of_getElem? (i := 1586) (by decide +kernel)⟩
theorem lw_p95 : lw_okq (⟨"SettledDotsModel", "weightsIn", "(IIII)I"⟩, 40) := ⟨⟨by decide +kernel, by decide +kernel⟩, List.mem_of_getElem? (i := 1071) (by decide +kernel), List.mem_of_getElem? (i := 1589) (by decide +kernel), List.mem_of_getElem? (i := 1590) (by decide +kernel)⟩
def lw_privs_6 : List (MethodName × Nat) := [(⟨"SettledDotsModel", "dearest", "(I)I"⟩, 40), (⟨"SettledDotsModel", "nearestOn", "(I)I"⟩, 40), (⟨"SettledDotsModel", "isElsewhere", "([III)Z"⟩, 40), (⟨"SettledDotsModel", "notes", "(I)V"⟩, 40), (⟨"SettledDotsModel", "puts", "()V"⟩, 40), (⟨"SettledDotsModel", "takesBack", "()V"⟩, 40), (⟨"SettledDotsModel", "costOf", "(I)I"⟩, 40), (⟨"SettledDotsModel", "spotOf", "(I)I"⟩, 40), (⟨"SettledDotsModel", "piecesOf", "(I)I"⟩, 40), (⟨"SettledDotsModel", "meets", "(I)V"⟩, 40), (⟨"SettledDotsModel", "areBeside", "(II)Z"⟩, 40), (⟨"SettledDotsModel", "spotsAt", "(I)I"⟩, 40), (⟨"SettledDotsModel", "touches", "(II)I"⟩, 40), (⟨"SettledDotsModel", "ownersOf", "(I)I"⟩, 40), (⟨"SettledDotsModel", "laysSpots", "()V"⟩, 40), (⟨"SettledDotsModel", "weightsIn", "(IIII)I"⟩, 40)]
theorem lw_r6 : ∀ q ∈ lw_privs_6, lw_okq q := List.forall_mem_cons.mpr ⟨lw_p80, List.forall_mem_cons.mpr ⟨lw_p81, List.forall_mem_cons.mpr ⟨lw_p82, List.forall_mem_cons.mpr ⟨lw_p83, List.forall_mem_cons.mpr ⟨lw_p84, List.forall_mem_cons.mpr ⟨lw_p85, List.forall_mem_cons.mpr ⟨lw_p86, List.forall_mem_cons.mpr ⟨lw_p87, List.forall_mem_cons.mpr ⟨lw_p88, List.forall_mem_cons.mpr ⟨lw_p89, List.forall_mem_cons.mpr ⟨lw_p90, List.forall_mem_cons.mpr ⟨lw_p91, List.forall_mem_cons.mpr ⟨lw_p92, List.forall_mem_cons.mpr ⟨lw_p93, List.forall_mem_cons.mpr ⟨lw_p94, List.forall_mem_cons.mpr ⟨lw_p95, fun _ h => absurd h List.not_mem_nil⟩⟩⟩⟩⟩⟩⟩⟩⟩⟩⟩⟩⟩⟩⟩⟩
theorem lw_p96 : lw_okq (⟨"SettledDotsModel", "isWithin", "(IIIII)Z"⟩, 40) := ⟨⟨by decide +kernel, by decide +kernel⟩, List.mem_of_getElem? (i := 1071) (by decide +kernel), List.mem_of_getElem? (i := 1593) (by decide +kernel), List.mem_of_getElem? (i := 1594) (by decide +kernel)⟩
theorem lw_p97 : lw_okq (⟨"SettledDotsModel", "dotsIn", "(IIII)I"⟩, 40) := ⟨⟨by decide +kernel, by decide +kernel⟩, List.mem_of_getElem? (i := 1071) (by decide +kernel), List.mem_of_getElem? (i := 1597) (by decide +kernel), List.mem_of_getElem? (i := 1598) (by decide +kernel)⟩
theorem lw_p98 : lw_okq (⟨"SettledDotsModel", "allWeights", "()I"⟩, 40) := ⟨⟨by decide +kernel, by decide +kernel⟩, List.mem_of_getElem? (i := 1071) (by decide +kernel), List.mem_of_getElem? (i := 1607) (by decide +kernel), List.mem_of_getElem? (i := 1608) (by decide +kernel)⟩
theorem lw_p99 : lw_okq (⟨"SettledDotsModel", "lossOf", "(I)I"⟩, 40) := ⟨⟨by decide +kernel, by decide +kernel⟩, List.mem_of_getElem? (i := 1071) (by decide +kernel), List.mem_of_getElem? (i := 1615) (by decide +kernel), List.mem_of_getElem? (i := 1616) (by decide +kernel)⟩
theorem lw_p100 : lw_okq (⟨"SettledDotsModel", "costWith", "(I)J"⟩, 40) := ⟨⟨by decide +kernel, by decide +kernel⟩, List.mem_of_getElem? (i := 1071) (by decide +kernel), List.mem_of_getElem? (i := 1627) (by decide +kernel), List.mem_of_getElem? (i := 1628) (by decide +kernel)⟩
theorem lw_p101 : lw_okq (⟨"SettledDotsModel", "costMoved", "(II)J"⟩, 40) := ⟨⟨by decide +kernel, by decide +kernel⟩, List.mem_of_getElem? (i := 1071) (by decide +kernel), List.mem_of_getElem? (i := 1635) (by decide +kernel), List.mem_of_getElem? (i := 1636) (by decide +kernel)⟩
theorem lw_p102 : lw_okq (⟨"SettledDotsModel", "farthestOf", "(I)I"⟩, 40) := ⟨⟨by decide +kernel, by decide +kernel⟩, List.mem_of_getElem? (i := 1071) (by decide +kernel), List.mem_of_getElem? (i := 1647) (by decide +kernel), List.mem_of_getElem? (i := 1648) (by decide +kernel)⟩
theorem lw_p103 : lw_okq (⟨"SettledDotsModel", "outside", "(I)I"⟩, 40) := ⟨⟨by decide +kernel, by decide +kernel⟩, List.mem_of_getElem? (i := 1071) (by decide +kernel), List.mem_of_getElem? (i := 1651) (by decide +kernel), List.mem_of_getElem? (i := 1652) (by decide +kernel)⟩
theorem lw_p104 : lw_okq (⟨"SettledDotsModel", "isBox", "(I)Z"⟩, 40) := ⟨⟨by decide +kernel, by decide +kernel⟩, List.mem_of_getElem? (i := 1071) (by decide +kernel), List.mem_of_getElem? (i := 1663) (by decide +kernel), List.mem_of_getElem? (i := 1664) (by decide +kernel)⟩
theorem lw_p105 : lw_okq (⟨"SettledDotsModel", "otherOwners", "(I)I"⟩, 40) := ⟨⟨by decide +kernel, by decide +kernel⟩, List.mem_of_getElem? (i := 1071) (by decide +kernel), List.mem_of_getElem? (i := 1675) (by decide +kernel), List.mem_of_getElem? (i := 1676) (by decide +kernel)⟩
theorem lw_p106 : lw_okq (⟨"SettledDotsModel", "emptyOnes", "()I"⟩, 40) := ⟨⟨by decide +kernel, by decide +kernel⟩, List.mem_of_getElem? (i := 1071) (by decide +kernel), List.mem_of_getElem? (i := 1683) (by decide +kernel), List.mem_of_getElem? (i := 1684) (by decide +kernel)⟩
def lw_privs_7 : List (MethodName × Nat) := [(⟨"SettledDotsModel", "isWithin", "(IIIII)Z"⟩, 40), (⟨"SettledDotsModel", "dotsIn", "(IIII)I"⟩, 40), (⟨"SettledDotsModel", "allWeights", "()I"⟩, 40), (⟨"SettledDotsModel", "lossOf", "(I)I"⟩, 40), (⟨"SettledDotsModel", "costWith", "(I)J"⟩, 40), (⟨"SettledDotsModel", "costMoved", "(II)J"⟩, 40), (⟨"SettledDotsModel", "farthestOf", "(I)I"⟩, 40), (⟨"SettledDotsModel", "outside", "(I)I"⟩, 40), (⟨"SettledDotsModel", "isBox", "(I)Z"⟩, 40), (⟨"SettledDotsModel", "otherOwners", "(I)I"⟩, 40), (⟨"SettledDotsModel", "emptyOnes", "()I"⟩, 40)]
theorem lw_r7 : ∀ q ∈ lw_privs_7, lw_okq q := List.forall_mem_cons.mpr ⟨lw_p96, List.forall_mem_cons.mpr ⟨lw_p97, List.forall_mem_cons.mpr ⟨lw_p98, List.forall_mem_cons.mpr ⟨lw_p99, List.forall_mem_cons.mpr ⟨lw_p100, List.forall_mem_cons.mpr ⟨lw_p101, List.forall_mem_cons.mpr ⟨lw_p102, List.forall_mem_cons.mpr ⟨lw_p103, List.forall_mem_cons.mpr ⟨lw_p104, List.forall_mem_cons.mpr ⟨lw_p105, List.forall_mem_cons.mpr ⟨lw_p106, fun _ h => absurd h List.not_mem_nil⟩⟩⟩⟩⟩⟩⟩⟩⟩⟩⟩
def lw_privs : List (MethodName × Nat) := lw_privs_1 ++ (lw_privs_2 ++ (lw_privs_3 ++ (lw_privs_4 ++ (lw_privs_5 ++ (lw_privs_6 ++ (lw_privs_7))))))
def lw_tbl : List Cond := k2_sels lw_privs ++ tables_1
theorem lw_privs_ok : ∀ q ∈ lw_privs, lw_okq q := by
  show ∀ q ∈ lw_privs_1 ++ (lw_privs_2 ++ (lw_privs_3 ++ (lw_privs_4 ++ (lw_privs_5 ++ (lw_privs_6 ++ (lw_privs_7)))))), lw_okq q
  exact List.forall_mem_append.mpr ⟨lw_r1, List.forall_mem_append.mpr ⟨lw_r2, List.forall_mem_append.mpr ⟨lw_r3, List.forall_mem_append.mpr ⟨lw_r4, List.forall_mem_append.mpr ⟨lw_r5, List.forall_mem_append.mpr ⟨lw_r6, lw_r7⟩⟩⟩⟩⟩⟩
end
section
def RX0 : String := "SettledDots$Ahead"
def TX0 : u_T := fun k => match k with
  | 0 => ("SettledDots$Ahead", "next", "LSettledDots$Scene;", true)
  | 1 => ("SettledDots$Ahead", "moved", "I", false)
  | 2 => ("SettledDots$Ahead", "roundsToCome", "I", false)
  | 3 => ("SettledDots$Ahead", "costThen", "I", false)
  | 4 => ("SettledDots$Ahead", "last", "LSettledDots$Scene;", true)
  | 5 => ("SettledDots$Ahead", "lastField", "LSettledDots$Field;", true)
  | 6 => ("SettledDots$Ahead", "oneKnown", "Z", false)
  | _ => ("SettledDots$Ahead", "endKnown", "Z", false)
def tyX0 : Nat → FieldType := fun k => match k with
  | 0 => .object "SettledDots$Scene"
  | 1 => .int
  | 2 => .int
  | 3 => .int
  | 4 => .object "SettledDots$Scene"
  | 5 => .object "SettledDots$Field"
  | 6 => .boolean
  | _ => .boolean
theorem nmX0 : ∀ a, a < 8 → ∀ b, b < 8 → a ≠ b → (TX0 a).2.1 ≠ (TX0 b).2.1 := by decide +kernel
theorem tyX0_ok : ∀ k, k < 8 → parseFieldDescriptor (TX0 k).2.2.1 = some (tyX0 k) := by decide +kernel
abbrev cX0_init : ByteArray := prog_2_method_1_code
def yX0_init : MethodName := ⟨RX0, "<init>", "()V"⟩
abbrev cX0_forget : ByteArray := prog_2_method_2_code
def yX0_forget : MethodName := ⟨RX0, "forget", "()V"⟩
abbrev cX0_lookOne : ByteArray := prog_2_method_3_code
def yX0_lookOne : MethodName := ⟨RX0, "lookOne", "(LSettledDots$Scene;)V"⟩
abbrev cX0_lookToEnd : ByteArray := prog_2_method_4_code
def yX0_lookToEnd : MethodName := ⟨RX0, "lookToEnd", "(LSettledDots$Scene;)V"⟩
def RX1 : String := "SettledDots$Box"
def TX1 : u_T := fun k => match k with
  | 0 => ("SettledDots$Box", "full", "Z", false)
  | 1 => ("SettledDots$Box", "scene", "LSettledDots$Scene;", true)
  | _ => ("SettledDots$Box", "owner", "[I", true)
def tyX1 : Nat → FieldType := fun k => match k with
  | 0 => .boolean
  | 1 => .object "SettledDots$Scene"
  | _ => .array .int
theorem nmX1 : ∀ a, a < 3 → ∀ b, b < 3 → a ≠ b → (TX1 a).2.1 ≠ (TX1 b).2.1 := by decide +kernel
theorem tyX1_ok : ∀ k, k < 3 → parseFieldDescriptor (TX1 k).2.2.1 = some (tyX1 k) := by decide +kernel
abbrev cX1_init : ByteArray := prog_3_method_1_code
def yX1_init : MethodName := ⟨RX1, "<init>", "()V"⟩
abbrev cX1_keep : ByteArray := prog_3_method_2_code
def yX1_keep : MethodName := ⟨RX1, "keep", "(LSettledDots$Scene;LSettledDots$Field;)V"⟩
abbrev cX1_otherOwners : ByteArray := prog_3_method_3_code
def yX1_otherOwners : MethodName := ⟨RX1, "otherOwners", "(LSettledDots$Scene;LSettledDots$Field;)I"⟩
abbrev cX1_otherWeights : ByteArray := prog_3_method_4_code
def yX1_otherWeights : MethodName := ⟨RX1, "otherWeights", "(LSettledDots$Scene;)I"⟩
abbrev cX1_otherDots : ByteArray := prog_3_method_5_code
def yX1_otherDots : MethodName := ⟨RX1, "otherDots", "(LSettledDots$Scene;)I"⟩
def RX2 : String := "SettledDots$Field"
def TX2 : u_T := fun k => match k with
  | 0 => ("SettledDots$Field", "owner", "[I", true)
  | 1 => ("SettledDots$Field", "gap", "[J", true)
  | 2 => ("SettledDots$Field", "span", "[J", true)
  | 3 => ("SettledDots$Field", "cost", "[I", true)
  | 4 => ("SettledDots$Field", "cells", "[I", true)
  | 5 => ("SettledDots$Field", "load", "[I", true)
  | 6 => ("SettledDots$Field", "bill", "[I", true)
  | 7 => ("SettledDots$Field", "sumAcross", "[I", true)
  | 8 => ("SettledDots$Field", "sumDown", "[I", true)
  | _ => ("SettledDots$Field", "total", "I", false)
def tyX2 : Nat → FieldType := fun k => match k with
  | 0 => .array .int
  | 1 => .array .long
  | 2 => .array .long
  | 3 => .array .int
  | 4 => .array .int
  | 5 => .array .int
  | 6 => .array .int
  | 7 => .array .int
  | 8 => .array .int
  | _ => .int
theorem nmX2 : ∀ a, a < 10 → ∀ b, b < 10 → a ≠ b → (TX2 a).2.1 ≠ (TX2 b).2.1 := by decide +kernel
theorem tyX2_ok : ∀ k, k < 10 → parseFieldDescriptor (TX2 k).2.2.1 = some (tyX2 k) := by decide +kernel
abbrev cX2_init : ByteArray := prog_4_method_1_code
def yX2_init : MethodName := ⟨RX2, "<init>", "()V"⟩
abbrev cX2_survey : ByteArray := prog_4_method_2_code
def yX2_survey : MethodName := ⟨RX2, "survey", "(LSettledDots$Scene;)V"⟩
abbrev cX2_round : ByteArray := prog_4_method_3_code
def yX2_round : MethodName := ⟨RX2, "round", "(LSettledDots$Scene;)I"⟩
abbrev cX2_wipeOwners : ByteArray := prog_4_method_4_code
def yX2_wipeOwners : MethodName := ⟨RX2, "wipeOwners", "()V"⟩
abbrev cX2_offer : ByteArray := prog_4_method_5_code
def yX2_offer : MethodName := ⟨RX2, "offer", "(ILSettledDots$Scene;)V"⟩
abbrev cX2_addUp : ByteArray := prog_4_method_6_code
def yX2_addUp : MethodName := ⟨RX2, "addUp", "(LSettledDots$Scene;)V"⟩
abbrev cX2_addCell : ByteArray := prog_4_method_7_code
def yX2_addCell : MethodName := ⟨RX2, "addCell", "(IIII)V"⟩
abbrev cX2_worstOf : ByteArray := prog_4_method_8_code
def yX2_worstOf : MethodName := ⟨RX2, "worstOf", "(ILSettledDots$Scene;)I"⟩
abbrev cX2_farthestOf : ByteArray := prog_4_method_9_code
def yX2_farthestOf : MethodName := ⟨RX2, "farthestOf", "(ILSettledDots$Scene;)I"⟩
abbrev cX2_cellsAtEdge : ByteArray := prog_4_method_10_code
def yX2_cellsAtEdge : MethodName := ⟨RX2, "cellsAtEdge", "(ILSettledDots$Scene;)I"⟩
abbrev cX2_ownsShade : ByteArray := prog_4_method_11_code
def yX2_ownsShade : MethodName := ⟨RX2, "ownsShade", "(IILSettledDots$Scene;)Z"⟩
def RX3 : String := "SettledDots$Links"
def TX3 : u_T := fun k => match k with
  | 0 => ("SettledDots$Links", "couples", "[I", true)
  | 1 => ("SettledDots$Links", "queue", "[I", true)
  | 2 => ("SettledDots$Links", "stepsTo", "[I", true)
  | 3 => ("SettledDots$Links", "open", "[Z", true)
  | 4 => ("SettledDots$Links", "stack", "[I", true)
  | _ => ("SettledDots$Links", "top", "I", false)
def tyX3 : Nat → FieldType := fun k => match k with
  | 0 => .array .int
  | 1 => .array .int
  | 2 => .array .int
  | 3 => .array .boolean
  | 4 => .array .int
  | _ => .int
theorem nmX3 : ∀ a, a < 6 → ∀ b, b < 6 → a ≠ b → (TX3 a).2.1 ≠ (TX3 b).2.1 := by decide +kernel
theorem tyX3_ok : ∀ k, k < 6 → parseFieldDescriptor (TX3 k).2.2.1 = some (tyX3 k) := by decide +kernel
abbrev cX3_init : ByteArray := prog_5_method_1_code
def yX3_init : MethodName := ⟨RX3, "<init>", "()V"⟩
abbrev cX3_countCouples : ByteArray := prog_5_method_2_code
def yX3_countCouples : MethodName := ⟨RX3, "countCouples", "(LSettledDots$Scene;LSettledDots$Field;)V"⟩
abbrev cX3_join : ByteArray := prog_5_method_3_code
def yX3_join : MethodName := ⟨RX3, "join", "(II)V"⟩
abbrev cX3_couplesOfTwo : ByteArray := prog_5_method_4_code
def yX3_couplesOfTwo : MethodName := ⟨RX3, "couplesOfTwo", "(II)I"⟩
abbrev cX3_couplesOf : ByteArray := prog_5_method_5_code
def yX3_couplesOf : MethodName := ⟨RX3, "couplesOf", "(II)I"⟩
abbrev cX3_fewestSteps : ByteArray := prog_5_method_6_code
def yX3_fewestSteps : MethodName := ⟨RX3, "fewestSteps", "(III)I"⟩
abbrev cX3_piecesOf : ByteArray := prog_5_method_7_code
def yX3_piecesOf : MethodName := ⟨RX3, "piecesOf", "(ILSettledDots$Scene;LSettledDots$Field;)I"⟩
abbrev cX3_clearPiece : ByteArray := prog_5_method_8_code
def yX3_clearPiece : MethodName := ⟨RX3, "clearPiece", "(ILSettledDots$Scene;)V"⟩
abbrev cX3_push : ByteArray := prog_5_method_9_code
def yX3_push : MethodName := ⟨RX3, "push", "(I)V"⟩
def RX4 : String := "SettledDots$Past"
def TX4 : u_T := fun k => match k with
  | 0 => ("SettledDots$Past", "slots", "[LSettledDots$Scene;", true)
  | 1 => ("SettledDots$Past", "oldest", "I", false)
  | 2 => ("SettledDots$Past", "undoable", "I", false)
  | _ => ("SettledDots$Past", "redoable", "I", false)
def tyX4 : Nat → FieldType := fun k => match k with
  | 0 => .array (.object "SettledDots$Scene")
  | 1 => .int
  | 2 => .int
  | _ => .int
theorem nmX4 : ∀ a, a < 4 → ∀ b, b < 4 → a ≠ b → (TX4 a).2.1 ≠ (TX4 b).2.1 := by decide +kernel
theorem tyX4_ok : ∀ k, k < 4 → parseFieldDescriptor (TX4 k).2.2.1 = some (tyX4 k) := by decide +kernel
abbrev cX4_init : ByteArray := prog_6_method_1_code
def yX4_init : MethodName := ⟨RX4, "<init>", "()V"⟩
abbrev cX4_clear : ByteArray := prog_6_method_2_code
def yX4_clear : MethodName := ⟨RX4, "clear", "()V"⟩
abbrev cX4_keep : ByteArray := prog_6_method_3_code
def yX4_keep : MethodName := ⟨RX4, "keep", "(LSettledDots$Scene;)LSettledDots$Scene;"⟩
abbrev cX4_swapBack : ByteArray := prog_6_method_4_code
def yX4_swapBack : MethodName := ⟨RX4, "swapBack", "(LSettledDots$Scene;)LSettledDots$Scene;"⟩
abbrev cX4_swapForth : ByteArray := prog_6_method_5_code
def yX4_swapForth : MethodName := ⟨RX4, "swapForth", "(LSettledDots$Scene;)LSettledDots$Scene;"⟩
abbrev cX4_slotOf : ByteArray := prog_6_method_6_code
def yX4_slotOf : MethodName := ⟨RX4, "slotOf", "(I)I"⟩
abbrev cX4_swap : ByteArray := prog_6_method_7_code
def yX4_swap : MethodName := ⟨RX4, "swap", "(ILSettledDots$Scene;)LSettledDots$Scene;"⟩
def RX5 : String := "SettledDots$Prices"
def TX5 : u_T := fun k => match k with
  | 0 => ("SettledDots$Prices", "rest", "[I", true)
  | 1 => ("SettledDots$Prices", "cheapestCell", "I", false)
  | _ => ("SettledDots$Prices", "cheapestCost", "I", false)
def tyX5 : Nat → FieldType := fun k => match k with
  | 0 => .array .int
  | 1 => .int
  | _ => .int
theorem nmX5 : ∀ a, a < 3 → ∀ b, b < 3 → a ≠ b → (TX5 a).2.1 ≠ (TX5 b).2.1 := by decide +kernel
theorem tyX5_ok : ∀ k, k < 3 → parseFieldDescriptor (TX5 k).2.2.1 = some (tyX5 k) := by decide +kernel
abbrev cX5_init : ByteArray := prog_7_method_1_code
def yX5_init : MethodName := ⟨RX5, "<init>", "()V"⟩
abbrev cX5_leaveOut : ByteArray := prog_7_method_2_code
def yX5_leaveOut : MethodName := ⟨RX5, "leaveOut", "(ILSettledDots$Scene;LSettledDots$Field;)V"⟩
abbrev cX5_priceOfOthers : ByteArray := prog_7_method_3_code
def yX5_priceOfOthers : MethodName := ⟨RX5, "priceOfOthers", "(IIILSettledDots$Scene;)I"⟩
abbrev cX5_sum : ByteArray := prog_7_method_4_code
def yX5_sum : MethodName := ⟨RX5, "sum", "(LSettledDots$Scene;)I"⟩
abbrev cX5_findCheapest : ByteArray := prog_7_method_5_code
def yX5_findCheapest : MethodName := ⟨RX5, "findCheapest", "(LSettledDots$Scene;)V"⟩
abbrev cX5_sumWithOneAt : ByteArray := prog_7_method_6_code
def yX5_sumWithOneAt : MethodName := ⟨RX5, "sumWithOneAt", "(IILSettledDots$Scene;)I"⟩
def RX6 : String := "SettledDots$Reader"
def TX6 : u_T := fun k => match k with
  | 0 => ("SettledDots$Reader", "length", "I", false)
  | 1 => ("SettledDots$Reader", "mistake", "I", false)
  | 2 => ("SettledDots$Reader", "place", "I", false)
  | 3 => ("SettledDots$Reader", "bytes", "[I", true)
  | 4 => ("SettledDots$Reader", "draft", "LSettledDots$Scene;", false)
  | 5 => ("SettledDots$Reader", "rowsTold", "I", false)
  | 6 => ("SettledDots$Reader", "at", "I", false)
  | 7 => ("SettledDots$Reader", "start", "I", false)
  | _ => ("SettledDots$Reader", "kind", "I", false)
def tyX6 : Nat → FieldType := fun k => match k with
  | 0 => .int
  | 1 => .int
  | 2 => .int
  | 3 => .array .int
  | 4 => .object "SettledDots$Scene"
  | 5 => .int
  | 6 => .int
  | 7 => .int
  | _ => .int
theorem nmX6 : ∀ a, a < 9 → ∀ b, b < 9 → a ≠ b → (TX6 a).2.1 ≠ (TX6 b).2.1 := by decide +kernel
theorem tyX6_ok : ∀ k, k < 9 → parseFieldDescriptor (TX6 k).2.2.1 = some (tyX6 k) := by decide +kernel
abbrev cX6_init : ByteArray := prog_8_method_1_code
def yX6_init : MethodName := ⟨RX6, "<init>", "()V"⟩
abbrev cX6_hasRoom : ByteArray := prog_8_method_2_code
def yX6_hasRoom : MethodName := ⟨RX6, "hasRoom", "()Z"⟩
abbrev cX6_append : ByteArray := prog_8_method_3_code
def yX6_append : MethodName := ⟨RX6, "append", "(I)V"⟩
abbrev cX6_handOver : ByteArray := prog_8_method_4_code
def yX6_handOver : MethodName := ⟨RX6, "handOver", "(LSettledDots$Scene;)LSettledDots$Scene;"⟩
abbrev cX6_read : ByteArray := prog_8_method_5_code
def yX6_read : MethodName := ⟨RX6, "read", "()Z"⟩
abbrev cX6_readSize : ByteArray := prog_8_method_6_code
def yX6_readSize : MethodName := ⟨RX6, "readSize", "()V"⟩
abbrev cX6_readLine : ByteArray := prog_8_method_7_code
def yX6_readLine : MethodName := ⟨RX6, "readLine", "()V"⟩
abbrev cX6_readRow : ByteArray := prog_8_method_8_code
def yX6_readRow : MethodName := ⟨RX6, "readRow", "()V"⟩
abbrev cX6_readDot : ByteArray := prog_8_method_9_code
def yX6_readDot : MethodName := ⟨RX6, "readDot", "()V"⟩
abbrev cX6_readNumber : ByteArray := prog_8_method_10_code
def yX6_readNumber : MethodName := ⟨RX6, "readNumber", "(II)I"⟩
abbrev cX6_valueOfDigits : ByteArray := prog_8_method_11_code
def yX6_valueOfDigits : MethodName := ⟨RX6, "valueOfDigits", "()I"⟩
abbrev cX6_readSign : ByteArray := prog_8_method_12_code
def yX6_readSign : MethodName := ⟨RX6, "readSign", "()V"⟩
abbrev cX6_expect : ByteArray := prog_8_method_13_code
def yX6_expect : MethodName := ⟨RX6, "expect", "(I)Z"⟩
abbrev cX6_fail : ByteArray := prog_8_method_14_code
def yX6_fail : MethodName := ⟨RX6, "fail", "(I)V"⟩
abbrev cX6_isWord : ByteArray := prog_8_method_15_code
def yX6_isWord : MethodName := ⟨RX6, "isWord", "(Ljava/lang/String;)Z"⟩
abbrev cX6_next : ByteArray := prog_8_method_16_code
def yX6_next : MethodName := ⟨RX6, "next", "()V"⟩
abbrev cX6_isAtLetter : ByteArray := prog_8_method_17_code
def yX6_isAtLetter : MethodName := ⟨RX6, "isAtLetter", "()Z"⟩
abbrev cX6_kindOf : ByteArray := prog_8_method_18_code
def yX6_kindOf : MethodName := ⟨RX6, "kindOf", "(I)I"⟩
def RX7 : String := "SettledDots$Scene"
def TX7 : u_T := fun k => match k with
  | 0 => ("SettledDots$Scene", "width", "I", false)
  | 1 => ("SettledDots$Scene", "height", "I", false)
  | 2 => ("SettledDots$Scene", "count", "I", false)
  | 3 => ("SettledDots$Scene", "grain", "I", false)
  | 4 => ("SettledDots$Scene", "weight", "[I", true)
  | 5 => ("SettledDots$Scene", "across", "[I", true)
  | 6 => ("SettledDots$Scene", "down", "[I", true)
  | _ => ("SettledDots$Scene", "parts", "[I", true)
def tyX7 : Nat → FieldType := fun k => match k with
  | 0 => .int
  | 1 => .int
  | 2 => .int
  | 3 => .int
  | 4 => .array .int
  | 5 => .array .int
  | 6 => .array .int
  | _ => .array .int
theorem nmX7 : ∀ a, a < 8 → ∀ b, b < 8 → a ≠ b → (TX7 a).2.1 ≠ (TX7 b).2.1 := by decide +kernel
theorem tyX7_ok : ∀ k, k < 8 → parseFieldDescriptor (TX7 k).2.2.1 = some (tyX7 k) := by decide +kernel
abbrev cX7_init : ByteArray := prog_9_method_1_code
def yX7_init : MethodName := ⟨RX7, "<init>", "()V"⟩
abbrev cX7_clear : ByteArray := prog_9_method_2_code
def yX7_clear : MethodName := ⟨RX7, "clear", "()V"⟩
abbrev cX7_copy : ByteArray := prog_9_method_3_code
def yX7_copy : MethodName := ⟨RX7, "copy", "(LSettledDots$Scene;)V"⟩
abbrev cX7_becomeQuarterTurnOf : ByteArray := prog_9_method_4_code
def yX7_becomeQuarterTurnOf : MethodName := ⟨RX7, "becomeQuarterTurnOf", "(LSettledDots$Scene;)V"⟩
abbrev cX7_size : ByteArray := prog_9_method_5_code
def yX7_size : MethodName := ⟨RX7, "size", "()I"⟩
abbrev cX7_isAsLargeAs : ByteArray := prog_9_method_6_code
def yX7_isAsLargeAs : MethodName := ⟨RX7, "isAsLargeAs", "(LSettledDots$Scene;)Z"⟩
abbrev cX7_holds : ByteArray := prog_9_method_7_code
def yX7_holds : MethodName := ⟨RX7, "holds", "(II)Z"⟩
abbrev cX7_has : ByteArray := prog_9_method_8_code
def yX7_has : MethodName := ⟨RX7, "has", "(I)Z"⟩
abbrev cX7_numberOf : ByteArray := prog_9_method_9_code
def yX7_numberOf : MethodName := ⟨RX7, "numberOf", "(II)I"⟩
abbrev cX7_columnOf : ByteArray := prog_9_method_10_code
def yX7_columnOf : MethodName := ⟨RX7, "columnOf", "(I)I"⟩
abbrev cX7_rowOf : ByteArray := prog_9_method_11_code
def yX7_rowOf : MethodName := ⟨RX7, "rowOf", "(I)I"⟩
abbrev cX7_weightAt : ByteArray := prog_9_method_12_code
def yX7_weightAt : MethodName := ⟨RX7, "weightAt", "(II)I"⟩
abbrev cX7_add : ByteArray := prog_9_method_13_code
def yX7_add : MethodName := ⟨RX7, "add", "(II)V"⟩
abbrev cX7_remove : ByteArray := prog_9_method_14_code
def yX7_remove : MethodName := ⟨RX7, "remove", "(I)V"⟩
abbrev cX7_place : ByteArray := prog_9_method_15_code
def yX7_place : MethodName := ⟨RX7, "place", "(IIII)Z"⟩
abbrev cX7_commonDivisor : ByteArray := prog_9_method_16_code
def yX7_commonDivisor : MethodName := ⟨RX7, "commonDivisor", "(II)I"⟩
abbrev cX7_liesJustAt : ByteArray := prog_9_method_17_code
def yX7_liesJustAt : MethodName := ⟨RX7, "liesJustAt", "(III)Z"⟩
abbrev cX7_liesAsIn : ByteArray := prog_9_method_18_code
def yX7_liesAsIn : MethodName := ⟨RX7, "liesAsIn", "(ILSettledDots$Scene;)Z"⟩
abbrev cX7_gap : ByteArray := prog_9_method_19_code
def yX7_gap : MethodName := ⟨RX7, "gap", "(III)J"⟩
abbrev cX7_span : ByteArray := prog_9_method_20_code
def yX7_span : MethodName := ⟨RX7, "span", "(I)J"⟩
abbrev cX7_apart : ByteArray := prog_9_method_21_code
def yX7_apart : MethodName := ⟨RX7, "apart", "(ILSettledDots$Scene;I)J"⟩
abbrev cX7_dotsAheadOf : ByteArray := prog_9_method_22_code
def yX7_dotsAheadOf : MethodName := ⟨RX7, "dotsAheadOf", "(III)I"⟩
abbrev cX7_spotColumn : ByteArray := prog_9_method_23_code
def yX7_spotColumn : MethodName := ⟨RX7, "spotColumn", "(I)I"⟩
abbrev cX7_spotRow : ByteArray := prog_9_method_24_code
def yX7_spotRow : MethodName := ⟨RX7, "spotRow", "(I)I"⟩
abbrev cX7_nearestWhole : ByteArray := prog_9_method_25_code
def yX7_nearestWhole : MethodName := ⟨RX7, "nearestWhole", "(II)I"⟩
abbrev cX7_spotOf : ByteArray := prog_9_method_26_code
def yX7_spotOf : MethodName := ⟨RX7, "spotOf", "(I)I"⟩
abbrev cX7_spotsWithin : ByteArray := prog_9_method_27_code
def yX7_spotsWithin : MethodName := ⟨RX7, "spotsWithin", "(IIII)I"⟩
abbrev cX7_greyWithin : ByteArray := prog_9_method_28_code
def yX7_greyWithin : MethodName := ⟨RX7, "greyWithin", "(IIII)I"⟩
abbrev cX7_sumByShade : ByteArray := prog_9_method_29_code
def yX7_sumByShade : MethodName := ⟨RX7, "sumByShade", "([I)V"⟩
abbrev cX7_markBusy : ByteArray := prog_9_method_30_code
def yX7_markBusy : MethodName := ⟨RX7, "markBusy", "([Z)V"⟩
abbrev cX7_freeGreyCells : ByteArray := prog_9_method_31_code
def yX7_freeGreyCells : MethodName := ⟨RX7, "freeGreyCells", "([Z)I"⟩
abbrev cX7_drawOne : ByteArray := prog_9_method_32_code
def yX7_drawOne : MethodName := ⟨RX7, "drawOne", "([Z)V"⟩
abbrev cX7_drawBelow : ByteArray := prog_9_method_33_code
def yX7_drawBelow : MethodName := ⟨RX7, "drawBelow", "(I)I"⟩
def RX8 : String := "SettledDots$Track"
def TX8 : u_T := fun k => match k with
  | 0 => ("SettledDots$Track", "moved", "[I", true)
  | 1 => ("SettledDots$Track", "costAhead", "[I", true)
  | 2 => ("SettledDots$Track", "latest", "I", false)
  | _ => ("SettledDots$Track", "count", "I", false)
def tyX8 : Nat → FieldType := fun k => match k with
  | 0 => .array .int
  | 1 => .array .int
  | 2 => .int
  | _ => .int
theorem nmX8 : ∀ a, a < 4 → ∀ b, b < 4 → a ≠ b → (TX8 a).2.1 ≠ (TX8 b).2.1 := by decide +kernel
theorem tyX8_ok : ∀ k, k < 4 → parseFieldDescriptor (TX8 k).2.2.1 = some (tyX8 k) := by decide +kernel
abbrev cX8_init : ByteArray := prog_10_method_1_code
def yX8_init : MethodName := ⟨RX8, "<init>", "()V"⟩
abbrev cX8_clear : ByteArray := prog_10_method_2_code
def yX8_clear : MethodName := ⟨RX8, "clear", "()V"⟩
abbrev cX8_add : ByteArray := prog_10_method_3_code
def yX8_add : MethodName := ⟨RX8, "add", "(II)V"⟩
abbrev cX8_movedAt : ByteArray := prog_10_method_4_code
def yX8_movedAt : MethodName := ⟨RX8, "movedAt", "(I)I"⟩
abbrev cX8_costAt : ByteArray := prog_10_method_5_code
def yX8_costAt : MethodName := ⟨RX8, "costAt", "(I)I"⟩
def RX9 : String := "SettledDots"
def TX9 : u_T := fun k => match k with
  | 0 => ("SettledDots", "now", "LSettledDots$Scene;", false)
  | 1 => ("SettledDots", "field", "LSettledDots$Field;", true)
  | 2 => ("SettledDots", "surveyed", "Z", false)
  | 3 => ("SettledDots", "reader", "LSettledDots$Reader;", true)
  | 4 => ("SettledDots", "past", "LSettledDots$Past;", true)
  | 5 => ("SettledDots", "track", "LSettledDots$Track;", true)
  | 6 => ("SettledDots", "ahead", "LSettledDots$Ahead;", true)
  | 7 => ("SettledDots", "prices", "LSettledDots$Prices;", true)
  | 8 => ("SettledDots", "links", "LSettledDots$Links;", true)
  | 9 => ("SettledDots", "boxes", "[LSettledDots$Box;", true)
  | 10 => ("SettledDots", "busy", "[Z", true)
  | 11 => ("SettledDots", "plan", "[I", true)
  | _ => ("SettledDots", "shades", "[I", true)
def tyX9 : Nat → FieldType := fun k => match k with
  | 0 => .object "SettledDots$Scene"
  | 1 => .object "SettledDots$Field"
  | 2 => .boolean
  | 3 => .object "SettledDots$Reader"
  | 4 => .object "SettledDots$Past"
  | 5 => .object "SettledDots$Track"
  | 6 => .object "SettledDots$Ahead"
  | 7 => .object "SettledDots$Prices"
  | 8 => .object "SettledDots$Links"
  | 9 => .array (.object "SettledDots$Box")
  | 10 => .array .boolean
  | 11 => .array .int
  | _ => .array .int
theorem nmX9 : ∀ a, a < 13 → ∀ b, b < 13 → a ≠ b → (TX9 a).2.1 ≠ (TX9 b).2.1 := by decide +kernel
theorem tyX9_ok : ∀ k, k < 13 → parseFieldDescriptor (TX9 k).2.2.1 = some (tyX9 k) := by decide +kernel
abbrev cX9_init : ByteArray := prog_1_method_1_code
def yX9_init : MethodName := ⟨RX9, "<init>", "()V"⟩
abbrev cX9_feed : ByteArray := prog_1_method_2_code
def yX9_feed : MethodName := ⟨RX9, "feed", "(IIIII)I"⟩
abbrev cX9_end : ByteArray := prog_1_method_3_code
def yX9_end : MethodName := ⟨RX9, "end", "(I)I"⟩
abbrev cX9_picture : ByteArray := prog_1_method_4_code
def yX9_picture : MethodName := ⟨RX9, "picture", "()I"⟩
abbrev cX9_fault : ByteArray := prog_1_method_5_code
def yX9_fault : MethodName := ⟨RX9, "fault", "(I)I"⟩
abbrev cX9_put : ByteArray := prog_1_method_6_code
def yX9_put : MethodName := ⟨RX9, "put", "(II)I"⟩
abbrev cX9_take : ByteArray := prog_1_method_7_code
def yX9_take : MethodName := ⟨RX9, "take", "(I)I"⟩
abbrev cX9_move : ByteArray := prog_1_method_8_code
def yX9_move : MethodName := ⟨RX9, "move", "(III)Z"⟩
abbrev cX9_draw : ByteArray := prog_1_method_9_code
def yX9_draw : MethodName := ⟨RX9, "draw", "(I)I"⟩
abbrev cX9_seed : ByteArray := prog_1_method_10_code
def yX9_seed : MethodName := ⟨RX9, "seed", "(I)I"⟩
abbrev cX9_paint : ByteArray := prog_1_method_11_code
def yX9_paint : MethodName := ⟨RX9, "paint", "(III)I"⟩
abbrev cX9_rounds : ByteArray := prog_1_method_12_code
def yX9_rounds : MethodName := ⟨RX9, "rounds", "(I)I"⟩
abbrev cX9_adapt : ByteArray := prog_1_method_13_code
def yX9_adapt : MethodName := ⟨RX9, "adapt", "(II)I"⟩
abbrev cX9_turn : ByteArray := prog_1_method_14_code
def yX9_turn : MethodName := ⟨RX9, "turn", "()I"⟩
abbrev cX9_undo : ByteArray := prog_1_method_15_code
def yX9_undo : MethodName := ⟨RX9, "undo", "()Z"⟩
abbrev cX9_redo : ByteArray := prog_1_method_16_code
def yX9_redo : MethodName := ⟨RX9, "redo", "()Z"⟩
abbrev cX9_dot : ByteArray := prog_1_method_17_code
def yX9_dot : MethodName := ⟨RX9, "dot", "(II)I"⟩
abbrev cX9_cell : ByteArray := prog_1_method_18_code
def yX9_cell : MethodName := ⟨RX9, "cell", "(III)I"⟩
abbrev cX9_near : ByteArray := prog_1_method_19_code
def yX9_near : MethodName := ⟨RX9, "near", "(III)I"⟩
abbrev cX9_far : ByteArray := prog_1_method_20_code
def yX9_far : MethodName := ⟨RX9, "far", "(IIII)I"⟩
abbrev cX9_around : ByteArray := prog_1_method_21_code
def yX9_around : MethodName := ⟨RX9, "around", "(III)I"⟩
abbrev cX9_ring : ByteArray := prog_1_method_22_code
def yX9_ring : MethodName := ⟨RX9, "ring", "(II)I"⟩
abbrev cX9_closest : ByteArray := prog_1_method_23_code
def yX9_closest : MethodName := ⟨RX9, "closest", "(I)I"⟩
abbrev cX9_loads : ByteArray := prog_1_method_24_code
def yX9_loads : MethodName := ⟨RX9, "loads", "(I)I"⟩
abbrev cX9_ties : ByteArray := prog_1_method_25_code
def yX9_ties : MethodName := ⟨RX9, "ties", "(II)I"⟩
abbrev cX9_due : ByteArray := prog_1_method_26_code
def yX9_due : MethodName := ⟨RX9, "due", "(I)I"⟩
abbrev cX9_best : ByteArray := prog_1_method_27_code
def yX9_best : MethodName := ⟨RX9, "best", "(II)I"⟩
abbrev cX9_edge : ByteArray := prog_1_method_28_code
def yX9_edge : MethodName := ⟨RX9, "edge", "(II)I"⟩
abbrev cX9_touch : ByteArray := prog_1_method_29_code
def yX9_touch : MethodName := ⟨RX9, "touch", "(II)I"⟩
abbrev cX9_way : ByteArray := prog_1_method_30_code
def yX9_way : MethodName := ⟨RX9, "way", "(II)I"⟩
abbrev cX9_shade : ByteArray := prog_1_method_31_code
def yX9_shade : MethodName := ⟨RX9, "shade", "(II)I"⟩
abbrev cX9_step : ByteArray := prog_1_method_32_code
def yX9_step : MethodName := ⟨RX9, "step", "(I)I"⟩
abbrev cX9_moves : ByteArray := prog_1_method_33_code
def yX9_moves : MethodName := ⟨RX9, "moves", "()I"⟩
abbrev cX9_till : ByteArray := prog_1_method_34_code
def yX9_till : MethodName := ⟨RX9, "till", "(I)I"⟩
abbrev cX9_steps : ByteArray := prog_1_method_35_code
def yX9_steps : MethodName := ⟨RX9, "steps", "(II)I"⟩
abbrev cX9_loss : ByteArray := prog_1_method_36_code
def yX9_loss : MethodName := ⟨RX9, "loss", "(I)I"⟩
abbrev cX9_idle : ByteArray := prog_1_method_37_code
def yX9_idle : MethodName := ⟨RX9, "idle", "()I"⟩
abbrev cX9_more : ByteArray := prog_1_method_38_code
def yX9_more : MethodName := ⟨RX9, "more", "(I)I"⟩
abbrev cX9_tone : ByteArray := prog_1_method_39_code
def yX9_tone : MethodName := ⟨RX9, "tone", "(IIIII)I"⟩
abbrev cX9_uneven : ByteArray := prog_1_method_40_code
def yX9_uneven : MethodName := ⟨RX9, "uneven", "(II)I"⟩
abbrev cX9_against : ByteArray := prog_1_method_41_code
def yX9_against : MethodName := ⟨RX9, "against", "(II)I"⟩
abbrev cX9_image : ByteArray := prog_1_method_42_code
def yX9_image : MethodName := ⟨RX9, "image", "(I)I"⟩
abbrev cX9_back : ByteArray := prog_1_method_43_code
def yX9_back : MethodName := ⟨RX9, "back", "(I)I"⟩
abbrev cX9_about : ByteArray := prog_1_method_44_code
def yX9_about : MethodName := ⟨RX9, "about", "(I)I"⟩
abbrev cX9_upToDate : ByteArray := prog_1_method_45_code
def yX9_upToDate : MethodName := ⟨RX9, "upToDate", "()LSettledDots$Field;"⟩
abbrev cX9_forgetWhatWasSeen : ByteArray := prog_1_method_46_code
def yX9_forgetWhatWasSeen : MethodName := ⟨RX9, "forgetWhatWasSeen", "()V"⟩
abbrev cX9_beginAct : ByteArray := prog_1_method_47_code
def yX9_beginAct : MethodName := ⟨RX9, "beginAct", "()LSettledDots$Scene;"⟩
abbrev cX9_startAnew : ByteArray := prog_1_method_48_code
def yX9_startAnew : MethodName := ⟨RX9, "startAnew", "()V"⟩
abbrev cX9_isBox : ByteArray := prog_1_method_49_code
def yX9_isBox : MethodName := ⟨RX9, "isBox", "(I)Z"⟩
abbrev cX9_countLeft : ByteArray := prog_1_method_50_code
def yX9_countLeft : MethodName := ⟨RX9, "countLeft", "(LSettledDots$Field;I)I"⟩
abbrev cX9_planAdded : ByteArray := prog_1_method_51_code
def yX9_planAdded : MethodName := ⟨RX9, "planAdded", "(LSettledDots$Field;II)I"⟩
abbrev cX9_firstGreatest : ByteArray := prog_1_method_52_code
def yX9_firstGreatest : MethodName := ⟨RX9, "firstGreatest", "([I)I"⟩
abbrev cX9_leastOf : ByteArray := prog_1_method_53_code
def yX9_leastOf : MethodName := ⟨RX9, "leastOf", "([I)I"⟩
abbrev cX9_emptyDots : ByteArray := prog_1_method_54_code
def yX9_emptyDots : MethodName := ⟨RX9, "emptyDots", "()I"⟩
abbrev cX9_cellsOfShade : ByteArray := prog_1_method_55_code
def yX9_cellsOfShade : MethodName := ⟨RX9, "cellsOfShade", "(I)I"⟩
abbrev cX9_spotsOfShade : ByteArray := prog_1_method_56_code
def yX9_spotsOfShade : MethodName := ⟨RX9, "spotsOfShade", "(I)I"⟩
abbrev cX9_ownersOfShade : ByteArray := prog_1_method_57_code
def yX9_ownersOfShade : MethodName := ⟨RX9, "ownersOfShade", "(I)I"⟩
abbrev cX9_costOfShade : ByteArray := prog_1_method_58_code
def yX9_costOfShade : MethodName := ⟨RX9, "costOfShade", "(I)I"⟩
abbrev cX9_divide : ByteArray := prog_1_method_59_code
def yX9_divide : MethodName := ⟨RX9, "divide", "(JJ)J"⟩
abbrev cX9_price : ByteArray := prog_1_method_60_code
def yX9_price : MethodName := ⟨RX9, "price", "(IJJ)I"⟩
def RX10 : String := "SettledDotsModel"
def TX10 : u_T := fun k => match k with
  | 0 => ("SettledDotsModel", "now", "[I", true)
  | 1 => ("SettledDotsModel", "tape", "[I", true)
  | 2 => ("SettledDotsModel", "taped", "I", false)
  | 3 => ("SettledDotsModel", "bytes", "I", false)
  | 4 => ("SettledDotsModel", "at", "I", false)
  | 5 => ("SettledDotsModel", "place", "I", false)
  | 6 => ("SettledDotsModel", "sort", "I", false)
  | 7 => ("SettledDotsModel", "many", "I", false)
  | 8 => ("SettledDotsModel", "value", "I", false)
  | 9 => ("SettledDotsModel", "fault", "I", false)
  | 10 => ("SettledDotsModel", "faultPlace", "I", false)
  | 11 => ("SettledDotsModel", "toldFault", "I", false)
  | 12 => ("SettledDotsModel", "toldPlace", "I", false)
  | 13 => ("SettledDotsModel", "word", "J", false)
  | 14 => ("SettledDotsModel", "read", "[I", true)
  | 15 => ("SettledDotsModel", "rows", "I", false)
  | 16 => ("SettledDotsModel", "past", "[I", true)
  | 17 => ("SettledDotsModel", "acts", "I", false)
  | 18 => ("SettledDotsModel", "undone", "I", false)
  | 19 => ("SettledDotsModel", "owner", "[I", true)
  | 20 => ("SettledDotsModel", "load", "[I", true)
  | 21 => ("SettledDotsModel", "aside", "[I", true)
  | 22 => ("SettledDotsModel", "before", "[I", true)
  | 23 => ("SettledDotsModel", "isOff", "[Z", true)
  | 24 => ("SettledDotsModel", "movedMany", "I", false)
  | 25 => ("SettledDotsModel", "stepMoved", "[I", true)
  | 26 => ("SettledDotsModel", "stepCost", "[I", true)
  | 27 => ("SettledDotsModel", "stepMany", "I", false)
  | 28 => ("SettledDotsModel", "goesOff", "[Z", true)
  | 29 => ("SettledDotsModel", "comeAt", "[I", true)
  | 30 => ("SettledDotsModel", "line", "[I", true)
  | 31 => ("SettledDotsModel", "isMet", "[Z", true)
  | 32 => ("SettledDotsModel", "waySteps", "[I", true)
  | 33 => ("SettledDotsModel", "spots", "[I", true)
  | 34 => ("SettledDotsModel", "shadeWeight", "[I", true)
  | 35 => ("SettledDotsModel", "shadeDue", "[I", true)
  | 36 => ("SettledDotsModel", "shadeRest", "[I", true)
  | 37 => ("SettledDotsModel", "boxes", "[I", true)
  | 38 => ("SettledDotsModel", "other", "[I", true)
  | _ => ("SettledDotsModel", "isKept", "[Z", true)
def tyX10 : Nat → FieldType := fun k => match k with
  | 0 => .array .int
  | 1 => .array .int
  | 2 => .int
  | 3 => .int
  | 4 => .int
  | 5 => .int
  | 6 => .int
  | 7 => .int
  | 8 => .int
  | 9 => .int
  | 10 => .int
  | 11 => .int
  | 12 => .int
  | 13 => .long
  | 14 => .array .int
  | 15 => .int
  | 16 => .array .int
  | 17 => .int
  | 18 => .int
  | 19 => .array .int
  | 20 => .array .int
  | 21 => .array .int
  | 22 => .array .int
  | 23 => .array .boolean
  | 24 => .int
  | 25 => .array .int
  | 26 => .array .int
  | 27 => .int
  | 28 => .array .boolean
  | 29 => .array .int
  | 30 => .array .int
  | 31 => .array .boolean
  | 32 => .array .int
  | 33 => .array .int
  | 34 => .array .int
  | 35 => .array .int
  | 36 => .array .int
  | 37 => .array .int
  | 38 => .array .int
  | _ => .array .boolean
theorem nmX10 : ∀ a, a < 40 → ∀ b, b < 40 → a ≠ b → (TX10 a).2.1 ≠ (TX10 b).2.1 := by decide +kernel
theorem tyX10_ok : ∀ k, k < 40 → parseFieldDescriptor (TX10 k).2.2.1 = some (tyX10 k) := by decide +kernel
abbrev cX10_init : ByteArray := prog_12_method_1_code
def yX10_init : MethodName := ⟨RX10, "<init>", "()V"⟩
abbrev cX10_isIn : ByteArray := prog_12_method_2_code
def yX10_isIn : MethodName := ⟨RX10, "isIn", "(JJJ)Z"⟩
abbrev cX10_truth : ByteArray := prog_12_method_3_code
def yX10_truth : MethodName := ⟨RX10, "truth", "(Z)I"⟩
abbrev cX10_greater : ByteArray := prog_12_method_4_code
def yX10_greater : MethodName := ⟨RX10, "greater", "(II)I"⟩
abbrev cX10_size : ByteArray := prog_12_method_5_code
def yX10_size : MethodName := ⟨RX10, "size", "(I)I"⟩
abbrev cX10_feed : ByteArray := prog_12_method_6_code
def yX10_feed : MethodName := ⟨RX10, "feed", "(IIIII)I"⟩
abbrev cX10_four : ByteArray := prog_12_method_7_code
def yX10_four : MethodName := ⟨RX10, "four", "(I)V"⟩
abbrev cX10_end : ByteArray := prog_12_method_8_code
def yX10_end : MethodName := ⟨RX10, "end", "(I)I"⟩
abbrev cX10_here : ByteArray := prog_12_method_9_code
def yX10_here : MethodName := ⟨RX10, "here", "(I)I"⟩
abbrev cX10_isLetter : ByteArray := prog_12_method_10_code
def yX10_isLetter : MethodName := ⟨RX10, "isLetter", "(I)Z"⟩
abbrev cX10_isDigit : ByteArray := prog_12_method_11_code
def yX10_isDigit : MethodName := ⟨RX10, "isDigit", "(I)Z"⟩
abbrev cX10_goOn : ByteArray := prog_12_method_12_code
def yX10_goOn : MethodName := ⟨RX10, "goOn", "()V"⟩
abbrev cX10_wrong : ByteArray := prog_12_method_13_code
def yX10_wrong : MethodName := ⟨RX10, "wrong", "(I)V"⟩
abbrev cX10_isGood : ByteArray := prog_12_method_14_code
def yX10_isGood : MethodName := ⟨RX10, "isGood", "()Z"⟩
abbrev cX10_isWord : ByteArray := prog_12_method_15_code
def yX10_isWord : MethodName := ⟨RX10, "isWord", "(J)Z"⟩
abbrev cX10_number : ByteArray := prog_12_method_16_code
def yX10_number : MethodName := ⟨RX10, "number", "(II)I"⟩
abbrev cX10_ends : ByteArray := prog_12_method_17_code
def yX10_ends : MethodName := ⟨RX10, "ends", "()V"⟩
abbrev cX10_rowLine : ByteArray := prog_12_method_18_code
def yX10_rowLine : MethodName := ⟨RX10, "rowLine", "()V"⟩
abbrev cX10_dotLine : ByteArray := prog_12_method_19_code
def yX10_dotLine : MethodName := ⟨RX10, "dotLine", "()V"⟩
abbrev cX10_picture : ByteArray := prog_12_method_20_code
def yX10_picture : MethodName := ⟨RX10, "picture", "()I"⟩
abbrev cX10_fault : ByteArray := prog_12_method_21_code
def yX10_fault : MethodName := ⟨RX10, "fault", "(I)I"⟩
abbrev cX10_act : ByteArray := prog_12_method_22_code
def yX10_act : MethodName := ⟨RX10, "act", "()V"⟩
abbrev cX10_otherAct : ByteArray := prog_12_method_23_code
def yX10_otherAct : MethodName := ⟨RX10, "otherAct", "()V"⟩
abbrev cX10_exchanges : ByteArray := prog_12_method_24_code
def yX10_exchanges : MethodName := ⟨RX10, "exchanges", "(I)V"⟩
abbrev cX10_undo : ByteArray := prog_12_method_25_code
def yX10_undo : MethodName := ⟨RX10, "undo", "()Z"⟩
abbrev cX10_redo : ByteArray := prog_12_method_26_code
def yX10_redo : MethodName := ⟨RX10, "redo", "()Z"⟩
abbrev cX10_wide : ByteArray := prog_12_method_27_code
def yX10_wide : MethodName := ⟨RX10, "wide", "()I"⟩
abbrev cX10_high : ByteArray := prog_12_method_28_code
def yX10_high : MethodName := ⟨RX10, "high", "()I"⟩
abbrev cX10_cells : ByteArray := prog_12_method_29_code
def yX10_cells : MethodName := ⟨RX10, "cells", "()I"⟩
abbrev cX10_dots : ByteArray := prog_12_method_30_code
def yX10_dots : MethodName := ⟨RX10, "dots", "()I"⟩
abbrev cX10_isCell : ByteArray := prog_12_method_31_code
def yX10_isCell : MethodName := ⟨RX10, "isCell", "(II)Z"⟩
abbrev cX10_isDot : ByteArray := prog_12_method_32_code
def yX10_isDot : MethodName := ⟨RX10, "isDot", "(I)Z"⟩
abbrev cX10_weight : ByteArray := prog_12_method_33_code
def yX10_weight : MethodName := ⟨RX10, "weight", "(I)I"⟩
abbrev cX10_numberOf : ByteArray := prog_12_method_34_code
def yX10_numberOf : MethodName := ⟨RX10, "numberOf", "(II)I"⟩
abbrev cX10_divisor : ByteArray := prog_12_method_35_code
def yX10_divisor : MethodName := ⟨RX10, "divisor", "(II)I"⟩
abbrev cX10_lays : ByteArray := prog_12_method_36_code
def yX10_lays : MethodName := ⟨RX10, "lays", "(IIII)V"⟩
abbrev cX10_xOf : ByteArray := prog_12_method_37_code
def yX10_xOf : MethodName := ⟨RX10, "xOf", "(I)I"⟩
abbrev cX10_yOf : ByteArray := prog_12_method_38_code
def yX10_yOf : MethodName := ⟨RX10, "yOf", "(I)I"⟩
abbrev cX10_under : ByteArray := prog_12_method_39_code
def yX10_under : MethodName := ⟨RX10, "under", "(I)J"⟩
abbrev cX10_upper : ByteArray := prog_12_method_40_code
def yX10_upper : MethodName := ⟨RX10, "upper", "(II)J"⟩
abbrev cX10_lower : ByteArray := prog_12_method_41_code
def yX10_lower : MethodName := ⟨RX10, "lower", "(I)J"⟩
abbrev cX10_isNearer : ByteArray := prog_12_method_42_code
def yX10_isNearer : MethodName := ⟨RX10, "isNearer", "(III)Z"⟩
abbrev cX10_laysOwners : ByteArray := prog_12_method_43_code
def yX10_laysOwners : MethodName := ⟨RX10, "laysOwners", "()V"⟩
abbrev cX10_ownerBut : ByteArray := prog_12_method_44_code
def yX10_ownerBut : MethodName := ⟨RX10, "ownerBut", "(II)I"⟩
abbrev cX10_costBy : ByteArray := prog_12_method_45_code
def yX10_costBy : MethodName := ⟨RX10, "costBy", "(II)J"⟩
abbrev cX10_costBut : ByteArray := prog_12_method_46_code
def yX10_costBut : MethodName := ⟨RX10, "costBut", "(I)J"⟩
abbrev cX10_allCost : ByteArray := prog_12_method_47_code
def yX10_allCost : MethodName := ⟨RX10, "allCost", "()I"⟩
abbrev cX10_laysLoads : ByteArray := prog_12_method_48_code
def yX10_laysLoads : MethodName := ⟨RX10, "laysLoads", "()V"⟩
abbrev cX10_liesAt : ByteArray := prog_12_method_49_code
def yX10_liesAt : MethodName := ⟨RX10, "liesAt", "(III)Z"⟩
abbrev cX10_allWeights : ByteArray := prog_12_method_50_code
def yX10_allWeights : MethodName := ⟨RX10, "allWeights", "()I"⟩
abbrev cX10_comes : ByteArray := prog_12_method_51_code
def yX10_comes : MethodName := ⟨RX10, "comes", "(II)V"⟩
abbrev cX10_put : ByteArray := prog_12_method_52_code
def yX10_put : MethodName := ⟨RX10, "put", "(II)I"⟩
abbrev cX10_goes : ByteArray := prog_12_method_53_code
def yX10_goes : MethodName := ⟨RX10, "goes", "(I)V"⟩
abbrev cX10_take : ByteArray := prog_12_method_54_code
def yX10_take : MethodName := ⟨RX10, "take", "(I)I"⟩
abbrev cX10_move : ByteArray := prog_12_method_55_code
def yX10_move : MethodName := ⟨RX10, "move", "(III)Z"⟩
abbrev cX10_isBare : ByteArray := prog_12_method_56_code
def yX10_isBare : MethodName := ⟨RX10, "isBare", "(I)Z"⟩
abbrev cX10_drawOf : ByteArray := prog_12_method_57_code
def yX10_drawOf : MethodName := ⟨RX10, "drawOf", "(I)I"⟩
abbrev cX10_drawsOne : ByteArray := prog_12_method_58_code
def yX10_drawsOne : MethodName := ⟨RX10, "drawsOne", "()V"⟩
abbrev cX10_draw : ByteArray := prog_12_method_59_code
def yX10_draw : MethodName := ⟨RX10, "draw", "(I)I"⟩
abbrev cX10_seed : ByteArray := prog_12_method_60_code
def yX10_seed : MethodName := ⟨RX10, "seed", "(I)I"⟩
abbrev cX10_paint : ByteArray := prog_12_method_61_code
def yX10_paint : MethodName := ⟨RX10, "paint", "(III)I"⟩
abbrev cX10_turn : ByteArray := prog_12_method_62_code
def yX10_turn : MethodName := ⟨RX10, "turn", "()I"⟩
abbrev cX10_dearest : ByteArray := prog_12_method_63_code
def yX10_dearest : MethodName := ⟨RX10, "dearest", "(I)I"⟩
abbrev cX10_nearestOn : ByteArray := prog_12_method_64_code
def yX10_nearestOn : MethodName := ⟨RX10, "nearestOn", "(I)I"⟩
abbrev cX10_toMiddle : ByteArray := prog_12_method_65_code
def yX10_toMiddle : MethodName := ⟨RX10, "toMiddle", "(I)V"⟩
abbrev cX10_isElsewhere : ByteArray := prog_12_method_66_code
def yX10_isElsewhere : MethodName := ⟨RX10, "isElsewhere", "([III)Z"⟩
abbrev cX10_round : ByteArray := prog_12_method_67_code
def yX10_round : MethodName := ⟨RX10, "round", "()V"⟩
abbrev cX10_notes : ByteArray := prog_12_method_68_code
def yX10_notes : MethodName := ⟨RX10, "notes", "(I)V"⟩
abbrev cX10_rounds : ByteArray := prog_12_method_69_code
def yX10_rounds : MethodName := ⟨RX10, "rounds", "(I)I"⟩
abbrev cX10_steps : ByteArray := prog_12_method_70_code
def yX10_steps : MethodName := ⟨RX10, "steps", "(II)I"⟩
abbrev cX10_puts : ByteArray := prog_12_method_71_code
def yX10_puts : MethodName := ⟨RX10, "puts", "()V"⟩
abbrev cX10_takesBack : ByteArray := prog_12_method_72_code
def yX10_takesBack : MethodName := ⟨RX10, "takesBack", "()V"⟩
abbrev cX10_moves : ByteArray := prog_12_method_73_code
def yX10_moves : MethodName := ⟨RX10, "moves", "()I"⟩
abbrev cX10_till : ByteArray := prog_12_method_74_code
def yX10_till : MethodName := ⟨RX10, "till", "(I)I"⟩
abbrev cX10_apart : ByteArray := prog_12_method_75_code
def yX10_apart : MethodName := ⟨RX10, "apart", "(JJJJJJ)I"⟩
abbrev cX10_step : ByteArray := prog_12_method_76_code
def yX10_step : MethodName := ⟨RX10, "step", "(I)I"⟩
abbrev cX10_adapt : ByteArray := prog_12_method_77_code
def yX10_adapt : MethodName := ⟨RX10, "adapt", "(II)I"⟩
abbrev cX10_spotOf : ByteArray := prog_12_method_78_code
def yX10_spotOf : MethodName := ⟨RX10, "spotOf", "(I)I"⟩
abbrev cX10_areBeside : ByteArray := prog_12_method_79_code
def yX10_areBeside : MethodName := ⟨RX10, "areBeside", "(II)Z"⟩
abbrev cX10_meets : ByteArray := prog_12_method_80_code
def yX10_meets : MethodName := ⟨RX10, "meets", "(I)V"⟩
abbrev cX10_piecesOf : ByteArray := prog_12_method_81_code
def yX10_piecesOf : MethodName := ⟨RX10, "piecesOf", "(I)I"⟩
abbrev cX10_costOf : ByteArray := prog_12_method_82_code
def yX10_costOf : MethodName := ⟨RX10, "costOf", "(I)I"⟩
abbrev cX10_dot : ByteArray := prog_12_method_83_code
def yX10_dot : MethodName := ⟨RX10, "dot", "(II)I"⟩
abbrev cX10_spotsAt : ByteArray := prog_12_method_84_code
def yX10_spotsAt : MethodName := ⟨RX10, "spotsAt", "(I)I"⟩
abbrev cX10_cell : ByteArray := prog_12_method_85_code
def yX10_cell : MethodName := ⟨RX10, "cell", "(III)I"⟩
abbrev cX10_near : ByteArray := prog_12_method_86_code
def yX10_near : MethodName := ⟨RX10, "near", "(III)I"⟩
abbrev cX10_far : ByteArray := prog_12_method_87_code
def yX10_far : MethodName := ⟨RX10, "far", "(IIII)I"⟩
abbrev cX10_around : ByteArray := prog_12_method_88_code
def yX10_around : MethodName := ⟨RX10, "around", "(III)I"⟩
abbrev cX10_ring : ByteArray := prog_12_method_89_code
def yX10_ring : MethodName := ⟨RX10, "ring", "(II)I"⟩
abbrev cX10_closest : ByteArray := prog_12_method_90_code
def yX10_closest : MethodName := ⟨RX10, "closest", "(I)I"⟩
abbrev cX10_loads : ByteArray := prog_12_method_91_code
def yX10_loads : MethodName := ⟨RX10, "loads", "(I)I"⟩
abbrev cX10_touches : ByteArray := prog_12_method_92_code
def yX10_touches : MethodName := ⟨RX10, "touches", "(II)I"⟩
abbrev cX10_touch : ByteArray := prog_12_method_93_code
def yX10_touch : MethodName := ⟨RX10, "touch", "(II)I"⟩
abbrev cX10_way : ByteArray := prog_12_method_94_code
def yX10_way : MethodName := ⟨RX10, "way", "(II)I"⟩
abbrev cX10_ownersOf : ByteArray := prog_12_method_95_code
def yX10_ownersOf : MethodName := ⟨RX10, "ownersOf", "(I)I"⟩
abbrev cX10_shade : ByteArray := prog_12_method_96_code
def yX10_shade : MethodName := ⟨RX10, "shade", "(II)I"⟩
abbrev cX10_isWithin : ByteArray := prog_12_method_97_code
def yX10_isWithin : MethodName := ⟨RX10, "isWithin", "(IIIII)Z"⟩
abbrev cX10_weightsIn : ByteArray := prog_12_method_98_code
def yX10_weightsIn : MethodName := ⟨RX10, "weightsIn", "(IIII)I"⟩
abbrev cX10_laysSpots : ByteArray := prog_12_method_99_code
def yX10_laysSpots : MethodName := ⟨RX10, "laysSpots", "()V"⟩
abbrev cX10_dotsIn : ByteArray := prog_12_method_100_code
def yX10_dotsIn : MethodName := ⟨RX10, "dotsIn", "(IIII)I"⟩
abbrev cX10_tone : ByteArray := prog_12_method_101_code
def yX10_tone : MethodName := ⟨RX10, "tone", "(IIIII)I"⟩
abbrev cX10_uneven : ByteArray := prog_12_method_102_code
def yX10_uneven : MethodName := ⟨RX10, "uneven", "(II)I"⟩
abbrev cX10_lossOf : ByteArray := prog_12_method_103_code
def yX10_lossOf : MethodName := ⟨RX10, "lossOf", "(I)I"⟩
abbrev cX10_loss : ByteArray := prog_12_method_104_code
def yX10_loss : MethodName := ⟨RX10, "loss", "(I)I"⟩
abbrev cX10_idle : ByteArray := prog_12_method_105_code
def yX10_idle : MethodName := ⟨RX10, "idle", "()I"⟩
abbrev cX10_costWith : ByteArray := prog_12_method_106_code
def yX10_costWith : MethodName := ⟨RX10, "costWith", "(I)J"⟩
abbrev cX10_more : ByteArray := prog_12_method_107_code
def yX10_more : MethodName := ⟨RX10, "more", "(I)I"⟩
abbrev cX10_costMoved : ByteArray := prog_12_method_108_code
def yX10_costMoved : MethodName := ⟨RX10, "costMoved", "(II)J"⟩
abbrev cX10_best : ByteArray := prog_12_method_109_code
def yX10_best : MethodName := ⟨RX10, "best", "(II)I"⟩
abbrev cX10_ties : ByteArray := prog_12_method_110_code
def yX10_ties : MethodName := ⟨RX10, "ties", "(II)I"⟩
abbrev cX10_farthestOf : ByteArray := prog_12_method_111_code
def yX10_farthestOf : MethodName := ⟨RX10, "farthestOf", "(I)I"⟩
abbrev cX10_outside : ByteArray := prog_12_method_112_code
def yX10_outside : MethodName := ⟨RX10, "outside", "(I)I"⟩
abbrev cX10_edge : ByteArray := prog_12_method_113_code
def yX10_edge : MethodName := ⟨RX10, "edge", "(II)I"⟩
abbrev cX10_due : ByteArray := prog_12_method_114_code
def yX10_due : MethodName := ⟨RX10, "due", "(I)I"⟩
abbrev cX10_isBox : ByteArray := prog_12_method_115_code
def yX10_isBox : MethodName := ⟨RX10, "isBox", "(I)Z"⟩
abbrev cX10_image : ByteArray := prog_12_method_116_code
def yX10_image : MethodName := ⟨RX10, "image", "(I)I"⟩
abbrev cX10_back : ByteArray := prog_12_method_117_code
def yX10_back : MethodName := ⟨RX10, "back", "(I)I"⟩
abbrev cX10_otherOwners : ByteArray := prog_12_method_118_code
def yX10_otherOwners : MethodName := ⟨RX10, "otherOwners", "(I)I"⟩
abbrev cX10_against : ByteArray := prog_12_method_119_code
def yX10_against : MethodName := ⟨RX10, "against", "(II)I"⟩
abbrev cX10_emptyOnes : ByteArray := prog_12_method_120_code
def yX10_emptyOnes : MethodName := ⟨RX10, "emptyOnes", "()I"⟩
abbrev cX10_about : ByteArray := prog_12_method_121_code
def yX10_about : MethodName := ⟨RX10, "about", "(I)I"⟩
def RJ9 : String := "java/lang/Math"
abbrev cJ9_floorMod_7cf53 : ByteArray := prog_13_method_50_code
def yJ9_floorMod_7cf53 : MethodName := ⟨RJ9, "floorMod", "(II)I"⟩
abbrev cJ9_abs_0f7a4 : ByteArray := prog_13_method_59_code
def yJ9_abs_0f7a4 : MethodName := ⟨RJ9, "abs", "(I)I"⟩
abbrev cJ9_max_7cf53 : ByteArray := prog_13_method_65_code
def yJ9_max_7cf53 : MethodName := ⟨RJ9, "max", "(II)I"⟩
abbrev cJ9_min_7cf53 : ByteArray := prog_13_method_69_code
def yJ9_min_7cf53 : MethodName := ⟨RJ9, "min", "(II)I"⟩
def RJ0 : String := "java/lang/String"
abbrev cJ0_length_8abf5 : ByteArray := prog_14_method_54_code
def yJ0_length_8abf5 : MethodName := ⟨RJ0, "length", "()I"⟩
abbrev cJ0_charAt_5068e : ByteArray := prog_14_method_56_code
def yJ0_charAt_5068e : MethodName := ⟨RJ0, "charAt", "(I)C"⟩
abbrev cJ0_coder_7d493 : ByteArray := prog_14_method_152_code
def yJ0_coder_7d493 : MethodName := ⟨RJ0, "coder", "()B"⟩
abbrev cJ0_isLatin1_aae02 : ByteArray := prog_14_method_154_code
def yJ0_isLatin1_aae02 : MethodName := ⟨RJ0, "isLatin1", "()Z"⟩
abbrev cJ0_checkIndex_df160 : ByteArray := prog_14_method_155_code
def yJ0_checkIndex_df160 : MethodName := ⟨RJ0, "checkIndex", "(II)V"⟩
def RJ1 : String := "java/lang/StringLatin1"
abbrev cJ1_charAt_3b067 : ByteArray := prog_15_method_2_code
def yJ1_charAt_3b067 : MethodName := ⟨RJ1, "charAt", "([BI)C"⟩
def RJ2 : String := "java/lang/StringUTF16"
abbrev cJ2_getChar_3b067 : ByteArray := prog_16_method_5_code
def yJ2_getChar_3b067 : MethodName := ⟨RJ2, "getChar", "([BI)C"⟩
abbrev cJ2_length_9d52b : ByteArray := prog_16_method_6_code
def yJ2_length_9d52b : MethodName := ⟨RJ2, "length", "([B)I"⟩
abbrev cJ2_charAt_3b067 : ByteArray := prog_16_method_83_code
def yJ2_charAt_3b067 : MethodName := ⟨RJ2, "charAt", "([BI)C"⟩
abbrev cJ2_checkIndex_2214a : ByteArray := prog_16_method_91_code
def yJ2_checkIndex_2214a : MethodName := ⟨RJ2, "checkIndex", "(I[B)V"⟩
def RJ10 : String := "java/lang/System"
def RJ7 : String := "java/util/Arrays"
abbrev cJ7_fill_d0a16 : ByteArray := prog_18_method_101_code
def yJ7_fill_d0a16 : MethodName := ⟨RJ7, "fill", "([JJ)V"⟩
abbrev cJ7_fill_53178 : ByteArray := prog_18_method_103_code
def yJ7_fill_53178 : MethodName := ⟨RJ7, "fill", "([II)V"⟩
def RJ3 : String := "jdk/internal/util/Preconditions"
abbrev cJ3_checkIndex_8e157 : ByteArray := prog_19_method_11_code
def yJ3_checkIndex_8e157 : MethodName := ⟨RJ3, "checkIndex", "(IILjava/util/function/BiFunction;)I"⟩
def RL : String := "SettledDotsLaw"
def yL_law : MethodName := ⟨RL, "law", "([I)Z"⟩
abbrev vwCl : List vw_C := [(RX0, TX0, 8), (RX1, TX1, 3), (RX2, TX2, 10), (RX3, TX3, 6), (RX4, TX4, 4), (RX5, TX5, 3), (RX6, TX6, 9), (RX7, TX7, 8), (RX8, TX8, 4), (RX9, TX9, 13), (RX10, TX10, 40)]
end
section
/-- the words that go along with every call -/
def lw_ok : List Cond := lw_tbl.filter goodWord
theorem lw_ok_in {w : Cond} (h : w ∈ lw_tbl) (g : goodWord w = true) : w ∈ lw_ok := List.mem_filter.mpr ⟨h, g⟩
def isNest : Cond → Bool
  | .methodLinkNest .. => true
  | _ => false
def NL (U : State) : Prop := ∀ w ∈ lw_tbl, isNest w = true → va_Nw w U
theorem NL.warm {s U : State} (hW : s.WarmedH U.vm) (h : NL s) : NL U := by
  intro w hw hn
  have h1 := h w hw hn
  cases w <;> first | (exact va_Nw.warmM hW h1) | (simp [isNest] at hn)
theorem NL.same {s U : State} (hv : U.vm = s.vm) (h : NL s) : NL U := by
  intro w hw hn
  have h1 := h w hw hn
  cases w <;> first | (exact va_Nw.same rfl hv.symm h1) | (simp [isNest] at hn)
/-! ===== abstract values, heaps, worlds; the judgements Spec and Go ===== -/
abbrev AV : Type := Int32 ⊕ (Int64 ⊕ Nat)
abbrev vI (x : Int32) : AV := .inl x
abbrev vL (x : Int64) : AV := .inr (.inl x)
abbrev vR (k : Nat) : AV := .inr (.inr k)
/-- how many cells (their handles are 1 .. n), the shape of each (an object of a class; an array of a type, its length), ints, longs, references -/
abbrev AH : Type := Nat × (Nat → Nat ⊕ (Nat × Nat)) × (Nat → Nat → Int32) × (Nat → Nat → Int64) × (Nat → Nat → Nat)
def hN (h : AH) : Nat := h.1
def hS (h : AH) : Nat → Nat ⊕ (Nat × Nat) := h.2.1
def hI (h : AH) : Nat → Nat → Int32 := h.2.2.1
def hL (h : AH) : Nat → Nat → Int64 := h.2.2.2.1
def hR (h : AH) : Nat → Nat → Nat := h.2.2.2.2
def up2 {α : Type} (f : Nat → Nat → α) (k j : Nat) (v : α) : Nat → Nat → α := fun k' j' => if k' = k ∧ j' = j then v else f k' j'
def setI (h : AH) (k j : Nat) (v : Int32) : AH := (h.1, h.2.1, up2 h.2.2.1 k j v, h.2.2.2.1, h.2.2.2.2)
def setL (h : AH) (k j : Nat) (v : Int64) : AH := (h.1, h.2.1, h.2.2.1, up2 h.2.2.2.1 k j v, h.2.2.2.2)
def setR (h : AH) (k j : Nat) (v : Nat) : AH := (h.1, h.2.1, h.2.2.1, h.2.2.2.1, up2 h.2.2.2.2 k j v)
/-- a whole row of ints, of longs -/
def rowI (h : AH) (k : Nat) (f : Nat → Int32) : AH := (h.1, h.2.1, (fun k' => if k' = k then f else h.2.2.1 k'), h.2.2.2.1, h.2.2.2.2)
def rowL (h : AH) (k : Nat) (f : Nat → Int64) : AH := (h.1, h.2.1, h.2.2.1, (fun k' => if k' = k then f else h.2.2.2.1 k'), h.2.2.2.2)
/-- a cell more, all zero -/
def newC (h : AH) (s : Nat ⊕ (Nat × Nat)) : AH := (h.1 + 1, (fun k => if k = h.1 + 1 then s else h.2.1 k), (fun k => if k = h.1 + 1 then (fun _ => 0) else h.2.2.1 k), (fun k => if k = h.1 + 1 then (fun _ => 0) else h.2.2.2.1 k), (fun k => if k = h.1 + 1 then (fun _ => 0) else h.2.2.2.2 k))
/-- an object of class ci; a row of type t with the place i in it -/
def Ob (h : AH) (k ci : Nat) : Prop := 0 < k ∧ k ≤ hN h ∧ hS h k = .inl ci
def Ar (h : AH) (k t n : Nat) : Prop := 0 < k ∧ k ≤ hN h ∧ hS h k = .inr (t, n)
def InA (h : AH) (k t : Nat) (i : Int32) : Prop := ∃ n, Ar h k t n ∧ vp_in i n
def ix (i : Int32) : Nat := i.toNatClampNeg
/-- the launch's own numbers: class ids, slots, array classes, the String constants' addresses, the script -/
abbrev GP : Type := (Nat → ClassId) × (Nat → Nat → Nat) × (Nat → ClassId) × (Nat → Nat) × (Nat → Nat) × Nat × Nat × (Nat → Int32)
def gD (G : GP) : va_G := (G.1, G.2.1)
def gA (G : GP) : Nat → ClassId := G.2.2.1
def gT (G : GP) : List (ClassId × FieldType) := [(gA G 0, .int), (gA G 1, .long), (gA G 2, .boolean), (gA G 3, .object "SettledDots$Scene"), (gA G 4, .object "SettledDots$Box")]
/-- handles of what lies outside: String constants 0 .. 2, the script 9 -/
def xh : Nat := 1048576
def hd (ad : Nat → Nat) (k : Nat) : Option Nat := if k = 0 then none else some (ad k)
def cv (ad : Nat → Nat) : AV → Value
  | .inl x => .int x
  | .inr (.inl x) => .long x
  | .inr (.inr k) => va_rf (hd ad k)
def fk (d : String) : Nat := if d = "I" then 0 else if d = "J" then 1 else if d = "Z" then 3 else 2
def kd (ci j : Nat) : Nat := match vwCl[ci]? with
  | some q => fk (q.2.1 j).2.2.1
  | none => 9
def nfl (ci : Nat) : Nat := match vwCl[ci]? with
  | some q => q.2.2
  | none => 0
def fvl (ad : Nat → Nat) (h : AH) (k ci j : Nat) : Value := if kd ci j = 1 then .long (hL h k j) else if kd ci j = 2 then va_rf (hd ad (hR h k j)) else .int (hI h k j)
def ent (G : GP) (ad : Nat → Nat) (h : AH) (k : Nat) : va_E := match hS h k with
  | .inl ci => .inr (ci, (List.range (nfl ci)).map (fvl ad h k ci))
  | .inr q => .inl (gA G q.1, q.2, if q.1 = 1 then .inr (.inl (hL h k)) else if q.1 < 3 then .inl (hI h k) else .inr (.inr (.inr (.inr (fun j => hd ad (hR h k j))))))
def wl (G : GP) (ad : Nat → Nat) (h : AH) : va_W := (List.range (hN h)).map (fun k => (ad (k + 1), ent G ad h (k + 1)))
theorem wl_len (G : GP) (ad : Nat → Nat) (h : AH) : (wl G ad h).length = hN h := by simp [wl]
theorem wl_at (G : GP) (ad : Nat → Nat) (h : AH) {k : Nat} (h0 : 0 < k) (h1 : k ≤ hN h) : (wl G ad h)[k - 1]? = some (ad k, ent G ad h k) := by
  have e : k - 1 + 1 = k := by omega
  simp [wl, List.getElem?_map, List.getElem?_range (show k - 1 < hN h by omega), e]
theorem wl_get (G : GP) (ad : Nat → Nat) (h : AH) (i : Nat) : (wl G ad h)[i]? = if i < hN h then some (ad (i + 1), ent G ad h (i + 1)) else none := by
  by_cases hi : i < hN h
  · rw [if_pos hi]; simp [wl, List.getElem?_map, List.getElem?_range hi]
  · rw [if_neg hi]; simp [wl]; omega
/-- what lies outside the world, and never changes -/
def XT (G : GP) (A : Nat → Prop) (U : State) (H : Heap) : Prop :=
  vk_S 3 [4, 3, 3] [[115, 105, 122, 101], [114, 111, 119], [100, 111, 116]] G.2.2.2.1 G.2.2.2.2.1 A U H ∧ vk_R "SettledDots$Reader" 50 "size" (G.2.2.2.1 0) U ∧ vk_R "SettledDots$Reader" 75 "row" (G.2.2.2.1 1) U ∧ vk_R "SettledDots$Reader" 80 "dot" (G.2.2.2.1 2) U ∧
  va_Z "java/lang/String" "COMPACT_STRINGS" "Z" (.int 1) A U H ∧ va_Zq "jdk/internal/util/Preconditions" "SIOOBE_FORMATTER" "Ljava/util/function/BiFunction;" A U H ∧ va_X G.2.2.2.2.2.1 G.2.2.2.2.2.2.1 G.2.2.2.2.2.2.2 U H ∧ G.2.2.2.2.2.1 < H.size ∧ ¬ A G.2.2.2.2.2.1 ∧ NL U ∧ va_AO "SettledDots$Scene" U ∧ va_AO "SettledDots$Box" U
theorem XT.kept {G : GP} {A : Nat → Prop} {U : State} {H H1 : Heap} (h : XT G A U H) (hz : H.size ≤ H1.size) (hq : ∀ a : Nat, a < H.size → ¬ A a → H1[a]? = H[a]?) : XT G A U H1 := by
  obtain ⟨h1, h2, h3, h4, h5, h6, h7, h8, h9, h10, h11, h12⟩ := h
  exact ⟨h1.kept hq, h2, h3, h4, h5.kept hq, h6.kept hq, h7.kept (hq _ h8 h9), Nat.lt_of_lt_of_le h8 hz, h9, h10, h11, h12⟩
theorem XT.narrow {G : GP} {A B : Nat → Prop} {U : State} {H : Heap} (h : XT G A U H) (hAB : ∀ q, B q → A q) : XT G B U H := by
  obtain ⟨h1, h2, h3, h4, h5, h6, h7, h8, h9, h10, h11, h12⟩ := h
  exact ⟨h1.narrow hAB, h2, h3, h4, h5.narrow hAB, h6.narrow hAB, h7, h8, fun q => h9 (hAB _ q), h10, h11, h12⟩
theorem XT.warm {G : GP} {A : Nat → Prop} {s U : State} {H : Heap} (hW : s.WarmedH U.vm) (h : XT G A s H) : XT G A U H := by
  obtain ⟨h1, h2, h3, h4, h5, h6, h7, h8, h9, h10, h11, h12⟩ := h
  have e := hW.alike
  exact ⟨h1.moved e, h2.warm hW, h3.warm hW, h4.warm hW, h5.moved e, h6.moved e, h7.moved e, h8, h9, h10.warm hW, h11.moved e, h12.moved e⟩
theorem XT.same {G : GP} {A : Nat → Prop} {s U : State} {H : Heap} (hv : U.vm = s.vm) (h : XT G A s H) : XT G A U H := by
  obtain ⟨h1, h2, h3, h4, h5, h6, h7, h8, h9, h10, h11, h12⟩ := h
  have e : s.vm.Alike U.vm := by rw [hv]; exact Vm.Alike.refl _
  exact ⟨h1.moved e, h2.same hv, h3.same hv, h4.same hv, h5.moved e, h6.moved e, h7.moved e, h8, h9, h10.same hv, h11.moved e, h12.moved e⟩
/-- the addresses of what lies outside -/
def adX (G : GP) (ad : Nat → Nat) : Prop := ad xh = G.2.2.2.1 0 ∧ ad (xh + 1) = G.2.2.2.1 1 ∧ ad (xh + 2) = G.2.2.2.1 2 ∧ ad (xh + 9) = G.2.2.2.2.2.1
/-- every reference names a cell that is there -/
def RF (h : AH) : Prop := ∀ k j, k ≤ hN h → hR h k j ≤ hN h
/-- the heap H of state U holds h at the addresses ad, all in A -/
def Wd (G : GP) (ad : Nat → Nat) (h : AH) (A : Nat → Prop) (U : State) (H : Heap) : Prop :=
  va_P (gD G) vwCl (wl G ad h) H ∧ va_K (gD G) vwCl (gT G) U ∧ va_D A (wl G ad h) ∧ hN h < xh ∧ adX G ad ∧ RF h
/-- a later map of addresses: only the new handles' changed -/
def adE (n n' : Nat) (ad ad' : Nat → Nat) : Prop := ∀ k, k ≤ n ∨ n' < k → ad' k = ad k
theorem adE.rf {n n' : Nat} {ad : Nat → Nat} : adE n n' ad ad := fun _ _ => rfl
theorem adE.tr {n n1 n2 : Nat} {a b c : Nat → Nat} (h1 : adE n n1 a b) (h2 : adE n1 n2 b c) (hn : n ≤ n1) (hn2 : n1 ≤ n2) : adE n n2 a c := fun k hk => (h2 k (hk.imp (fun q => Nat.le_trans q hn) id)).trans (h1 k (hk.imp id (fun q => Nat.lt_of_le_of_lt hn2 q)))
theorem adE.eq {n : Nat} {a b : Nat → Nat} (h : adE n n a b) : b = a := funext fun k => h k (by omega)
end
section
/-! ===== methods, contracts, the walk inside a method ===== -/
/-- name, bytes, locals, answer, room -/
abbrev MD : Type := MethodName × ByteArray × Nat × Option FieldType × Room
def mdN (M : MD) : MethodName := M.1
def mdB (M : MD) : ByteArray := M.2.1
def mdL (M : MD) : Nat := M.2.2.1
def mdT (M : MD) : Option FieldType := M.2.2.2.1
def mdR (M : MD) : Room := M.2.2.2.2
def wsM (M : MD) : List Cond := .code (mdN M) (mdB M) (mdL M) (mdT M) :: lw_ok
def Qs (G : GP) (d : Nat) (ad : Nat → Nat) (h : AH) (A : Nat → Prop) (K : Option AV → AH → Prop) : Array Value → State → Outcome → State → Prop := fun _ st oc t =>
  (∃ (r : Option AV) (h' : AH) (ad' : Nat → Nat), oc = .returned (r.map (cv ad')) ∧ K r h' ∧ hN h ≤ hN h' ∧ hN h' ≤ hN h + d ∧ adE (hN h) (hN h') ad ad' ∧ Wd G ad' h' A t t.heap) ∧ va_F A st t
def Spec (G : GP) (l : Launch) (M : MD) (args : List AV) (h : AH) (K : Option AV → AH → Prop) : Prop := ∀ (ad : Nat → Nat) (sz : Nat),
  Met l (mdN M) (wsM M) (mdR M) (va_Pc (args.map (cv ad)) (fun U => U.heap.size = sz ∧ Wd G ad h (va_A (wl G ad h) sz) U U.heap ∧ XT G (va_A (wl G ad h) sz) U U.heap)) (Qs G (mdR M).cells ad h (va_A (wl G ad h) sz) K) (mdR M).cells (mdR M).slots (va_A (wl G ad h) sz)
theorem MQ.mono {below : List Frame} {Qc Qc' : Array Value → State → Outcome → State → Prop} {a : Array Value} {s : State} {mc ms : Nat} {free : Addr → Prop} (h : ∀ o t, Qc a s o t → Qc' a s o t) {t : State} (q : MQ below Qc a s mc ms free t) : MQ below Qc' a s mc ms free t := by
  obtain ⟨o, h1, h2, h3, h4⟩ := q
  exact ⟨o, h1, h2, h _ _ h3, h4⟩
theorem W.mono {p : Program} {l : Launch} {e : Env} {R : Room} {s : State} {m : MethodId} {args : Array Value} {below : List Frame} {meth : Method} {c : Code} {H : Heap} {locs : List Loc} {cells slots : Nat} {Q Q' : State → Prop} {g : JFrame} (hq : ∀ t, Q t → Q' t) (h : W p l e R s m args below meth c H locs cells slots Q g) : W p l e R s m args below meth c H locs cells slots Q' g := by
  intro T hT X
  obtain ⟨t, a, b⟩ := h T hT X
  exact ⟨t, a, hq t b⟩
theorem Met.mono {l : Launch} {y : MethodName} {ws : List Cond} {rm : Room} {Pc : Array Value → State → Prop} {Qc Qc' : Array Value → State → Outcome → State → Prop} {mc ms : Nat} {free : Addr → Prop} (h : Met l y ws rm Pc Qc mc ms free) (hq : ∀ a s o t, Qc a s o t → Qc' a s o t) : Met l y ws rm Pc Qc' mc ms free := by
  intro p e ha hc hk s m args below hf happ hP hk2
  obtain ⟨k, o, h1, h2, h3, h4, h5⟩ := h p e ha hc hk s m args below hf happ hP hk2
  exact ⟨k, o, h1, h2, h3, hq _ _ _ _ h4, h5⟩
theorem Qs.mono {G : GP} {d : Nat} {ad : Nat → Nat} {h : AH} {A : Nat → Prop} {K K' : Option AV → AH → Prop} (hk : ∀ r h', K r h' → K' r h') {a : Array Value} {s : State} {o : Outcome} {t : State} (q : Qs G d ad h A K a s o t) : Qs G d ad h A K' a s o t := by
  obtain ⟨⟨r, h', ad', h1, h2, h3⟩, h4⟩ := q
  exact ⟨⟨r, h', ad', h1, hk _ _ h2, h3⟩, h4⟩
theorem Spec.mono {G : GP} {l : Launch} {M : MD} {args : List AV} {h : AH} {K K' : Option AV → AH → Prop} (q : Spec G l M args h K) (hk : ∀ r h', K r h' → K' r h') : Spec G l M args h K' := fun ad sz => (q ad sz).mono (fun _ _ _ _ z => z.mono hk)
/-- the locals that are known -/
def LV (ad : Nat → Nat) (la : Array Slot) (n : Nat) (ls : List (Option AV)) : Prop := la.size = n ∧ lv_wf la ∧ ∀ (i : Nat) (a : AV), ls[i]? = some (some a) → la[i]? = some (.val (cv ad a))
def lvl (ad : Nat → Nat) (ls : List (Option AV)) : List (Nat × Value) := (List.range ls.length).filterMap (fun i => (ls[i]?.join).map (fun a => (i, cv ad a)))
theorem lvl_mem {ad : Nat → Nat} {ls : List (Option AV)} {i : Nat} {a : AV} (h : ls[i]? = some (some a)) : (i, cv ad a) ∈ lvl ad ls := by
  have hi : i < ls.length := (List.getElem?_eq_some_iff.mp h).1
  exact List.mem_filterMap.mpr ⟨i, List.mem_range.mpr hi, by simp [h]⟩
theorem lvl_of {ad : Nat → Nat} {ls : List (Option AV)} {q : Nat × Value} (h : q ∈ lvl ad ls) : ∃ a, ls[q.1]? = some (some a) ∧ q.2 = cv ad a := by
  obtain ⟨i, -, hi⟩ := List.mem_filterMap.mp h
  cases hc : ls[i]? with
  | none => simp [hc] at hi
  | some o =>
    cases o with
    | none => simp [hc] at hi
    | some a =>
      simp [hc] at hi
      subst hi
      exact ⟨a, hc, rfl⟩
theorem LV.has {ad : Nat → Nat} {la : Array Slot} {n : Nat} {ls : List (Option AV)} (h : LV ad la n ls) : lv_has la n (lvl ad ls) := by
  refine ⟨h.1, h.2.1, fun q hq => ?_⟩
  obtain ⟨a, h1, h2⟩ := lvl_of hq
  rw [h2]
  exact h.2.2 _ _ h1
def isL : AV → Bool
  | .inr (.inl _) => true
  | _ => false
def offL (o : Option (Option AV)) : Bool := match o with
  | some (some a) => isL a
  | _ => false
/-- ahead of a store at i: a long that ends there is gone -/
def cutL (ls : List (Option AV)) (i : Nat) : List (Option AV) := match i with
  | 0 => ls
  | j + 1 => if offL ls[j]? then ls.set j none else ls
def sto (ls : List (Option AV)) (i : Nat) (a : AV) : List (Option AV) := if isL a then ((cutL ls i).set i (some a)).set (i + 1) none else (cutL ls i).set i (some a)
theorem cat_cv (ad : Nat → Nat) (a : AV) : (cv ad a).category = if isL a then 2 else 1 := by
  rcases a with x | x | k
  · rfl
  · rfl
  · simp only [cv, isL, va_rf, hd]
    by_cases h : k = 0 <;> simp [h, Value.category]
theorem cutL_get {ls : List (Option AV)} {i j : Nat} {a : AV} (h : (cutL ls i)[j]? = some (some a)) : ls[j]? = some (some a) ∧ ¬ (j + 1 = i ∧ isL a = true) := by
  cases i with
  | zero => exact ⟨h, fun q => by omega⟩
  | succ i =>
    simp only [cutL] at h
    by_cases ho : offL ls[i]? = true
    · rw [if_pos ho] at h
      by_cases hj : i = j
      · subst hj
        rw [List.getElem?_set] at h
        simp at h
      · rw [List.getElem?_set_ne hj] at h
        exact ⟨h, fun q => by omega⟩
    · rw [if_neg ho] at h
      refine ⟨h, fun q => ?_⟩
      have : j = i := by omega
      subst this
      rw [h] at ho
      exact ho (by simp [offL]; exact q.2)
theorem sto_get {ls : List (Option AV)} {i j : Nat} {a b : AV} (h : (sto ls i a)[j]? = some (some b)) : (j = i ∧ b = a) ∨ (j ≠ i ∧ ls[j]? = some (some b) ∧ ¬ (j + 1 = i ∧ isL b = true) ∧ ¬ (isL a = true ∧ j = i + 1)) := by
  unfold sto at h
  by_cases ha : isL a = true
  · rw [if_pos ha] at h
    by_cases hj1 : i + 1 = j
    · subst hj1
      rw [List.getElem?_set] at h
      simp at h
    · rw [List.getElem?_set_ne hj1] at h
      by_cases hj : i = j
      · subst hj
        rw [List.getElem?_set] at h
        simp at h
        exact Or.inl ⟨rfl, h.2.symm⟩
      · rw [List.getElem?_set_ne hj] at h
        obtain ⟨h1, h2⟩ := cutL_get h
        exact Or.inr ⟨fun q => hj q.symm, h1, h2, fun q => hj1 q.2.symm⟩
  · rw [if_neg ha] at h
    by_cases hj : i = j
    · subst hj
      rw [List.getElem?_set] at h
      simp at h
      exact Or.inl ⟨rfl, h.2.symm⟩
    · rw [List.getElem?_set_ne hj] at h
      obtain ⟨h1, h2⟩ := cutL_get h
      exact Or.inr ⟨fun q => hj q.symm, h1, h2, fun q => ha q.1⟩
theorem LV.sto1 {ad : Nat → Nat} {la : Array Slot} {n i : Nat} {ls : List (Option AV)} {a : AV} (ha : isL a = false) (h : lv_has la n ((i, cv ad a) :: (lvl ad ls).filter (fun q => !(q.1 == i) && !(q.1 + 1 == i && q.2.category == 2)))) : LV ad la n (sto ls i a) := by
  refine ⟨h.1, h.2.1, fun j b hb => ?_⟩
  rcases sto_get hb with ⟨rfl, rfl⟩ | ⟨h1, h2, h3, -⟩
  · exact h.2.2 (j, cv ad b) List.mem_cons_self
  · refine h.2.2 (j, cv ad b) (List.mem_cons_of_mem _ (List.mem_filter.mpr ⟨lvl_mem h2, ?_⟩))
    simp only [cat_cv]
    by_cases hl : isL b = true
    · have : ¬ j + 1 = i := fun q => h3 ⟨q, hl⟩
      simp [h1, this]
    · simp [h1, hl]
theorem LV.sto2 {ad : Nat → Nat} {la : Array Slot} {n i : Nat} {ls : List (Option AV)} {a : AV} (ha : isL a = true) (h : lv_has la n ((i, cv ad a) :: (lvl ad ls).filter (fun q => !(q.1 == i) && (!(q.1 == i + 1) && !(q.1 + 1 == i && q.2.category == 2))))) : LV ad la n (sto ls i a) := by
  refine ⟨h.1, h.2.1, fun j b hb => ?_⟩
  rcases sto_get hb with ⟨rfl, rfl⟩ | ⟨h1, h2, h3, h4⟩
  · exact h.2.2 (j, cv ad b) List.mem_cons_self
  · refine h.2.2 (j, cv ad b) (List.mem_cons_of_mem _ (List.mem_filter.mpr ⟨lvl_mem h2, ?_⟩))
    simp only [cat_cv]
    have h5 : ¬ j = i + 1 := fun q => h4 ⟨ha, q⟩
    by_cases hl : isL b = true
    · have : ¬ j + 1 = i := fun q => h3 ⟨q, hl⟩
      simp [h1, this, h5]
    · simp [h1, hl, h5]
/-- the locals at a method's entry -/
def enL : List AV → List (Option AV)
  | [] => []
  | a :: as => if isL a then some a :: none :: enL as else some a :: enL as
theorem enL_at {ad : Nat → Nat} : ∀ (as : List AV) (o i : Nat) (a : AV), (enL as)[i]? = some (some a) → (o + i, cv ad a) ∈ lv_args o (as.map (cv ad))
  | [], o, i, a, h => by simp [enL] at h
  | b :: as, o, i, a, h => by
    simp only [List.map_cons, lv_args, cat_cv]
    by_cases hb : isL b = true
    · simp only [enL, hb, if_true] at h ⊢
      match i, h with
      | 0, h => simp at h; subst h; exact List.mem_cons_self
      | 1, h => simp at h
      | i + 2, h =>
        have h' : (enL as)[i]? = some (some a) := by simpa using h
        have := enL_at (ad := ad) as (o + 2) i a h'
        rw [show o + (i + 2) = o + 2 + i by omega]
        exact List.mem_cons_of_mem _ this
    · have hb' : isL b = false := by simpa using hb
      simp only [enL, hb'] at h ⊢
      match i, h with
      | 0, h => simp at h; subst h; exact List.mem_cons_self
      | i + 1, h =>
        have h' : (enL as)[i]? = some (some a) := by simpa using h
        have := enL_at (ad := ad) as (o + 1) i a h'
        rw [show o + (i + 1) = o + 1 + i by omega]
        exact List.mem_cons_of_mem _ this
theorem enL_len {ad : Nat → Nat} : ∀ as : List AV, (lg_sl (as.map (cv ad))).length = (enL as).length
  | [] => rfl
  | b :: as => by
    have ih := enL_len (ad := ad) as
    unfold lg_sl at ih ⊢
    simp only [List.map_cons, List.flatMap_cons, List.length_append, cat_cv]
    by_cases hb : isL b = true
    · simp only [enL, hb, if_true]
      simp only [List.length_cons, List.length_nil]
      omega
    · have hb' : isL b = false := by simpa using hb
      simp only [enL, hb']
      simp
      simp at ih
      omega
/-- entry, with the rest of the locals unset -/
def entL (as : List AV) (n : Nat) : List (Option AV) := enL as ++ List.replicate (n - (enL as).length) none
theorem LV.entry {ad : Nat → Nat} {as : List AV} {n : Nat} (hn : (enL as).length ≤ n) : LV ad ((lg_sl (as.map (cv ad)) ++ List.replicate (n - (lg_sl (as.map (cv ad))).length) Slot.unset).toArray) n (entL as n) := by
  have h := lv_entry (as.map (cv ad)) (n := n) (by rw [enL_len]; exact hn)
  refine ⟨h.1, h.2.1, fun i a hi => ?_⟩
  have hl : (enL as)[i]? = some (some a) := by
    unfold entL at hi
    by_cases q : i < (enL as).length
    · rwa [List.getElem?_append_left q] at hi
    · rw [List.getElem?_append_right (by omega)] at hi
      have := List.mem_of_getElem? hi
      simp at this
  have := h.2.2 _ (enL_at (ad := ad) as 0 i a hl)
  simpa using this
end
section
/-! ===== the methods ===== -/
def mC_init : Nat := 0
def mC_feed : Nat := 1
def mC_end : Nat := 2
def mC_picture : Nat := 3
def mC_fault : Nat := 4
def mC_put : Nat := 5
def mC_take : Nat := 6
def mC_move : Nat := 7
def mC_draw : Nat := 8
def mC_seed : Nat := 9
def mC_paint : Nat := 10
def mC_rounds : Nat := 11
def mC_adapt : Nat := 12
def mC_turn : Nat := 13
def mC_undo : Nat := 14
def mC_redo : Nat := 15
def mC_dot : Nat := 16
def mC_cell : Nat := 17
def mC_near : Nat := 18
def mC_far : Nat := 19
def mC_around : Nat := 20
def mC_ring : Nat := 21
def mC_closest : Nat := 22
def mC_loads : Nat := 23
def mC_ties : Nat := 24
def mC_due : Nat := 25
def mC_best : Nat := 26
def mC_edge : Nat := 27
def mC_touch : Nat := 28
def mC_way : Nat := 29
def mC_shade : Nat := 30
def mC_step : Nat := 31
def mC_moves : Nat := 32
def mC_till : Nat := 33
def mC_steps : Nat := 34
def mC_loss : Nat := 35
def mC_idle : Nat := 36
def mC_more : Nat := 37
def mC_tone : Nat := 38
def mC_uneven : Nat := 39
def mC_against : Nat := 40
def mC_image : Nat := 41
def mC_back : Nat := 42
def mC_about : Nat := 43
def mC_upToDate : Nat := 44
def mC_forgetWhatWasSeen : Nat := 45
def mC_beginAct : Nat := 46
def mC_startAnew : Nat := 47
def mC_isBox : Nat := 48
def mC_countLeft : Nat := 49
def mC_planAdded : Nat := 50
def mC_firstGreatest : Nat := 51
def mC_leastOf : Nat := 52
def mC_emptyDots : Nat := 53
def mC_cellsOfShade : Nat := 54
def mC_spotsOfShade : Nat := 55
def mC_ownersOfShade : Nat := 56
def mC_costOfShade : Nat := 57
def mC_divide : Nat := 58
def mC_price : Nat := 59
def mS_init : Nat := 60
def mS_clear : Nat := 61
def mS_copy : Nat := 62
def mS_becomeQuarterTurnOf : Nat := 63
def mS_size : Nat := 64
def mS_isAsLargeAs : Nat := 65
def mS_holds : Nat := 66
def mS_has : Nat := 67
def mS_numberOf : Nat := 68
def mS_columnOf : Nat := 69
def mS_rowOf : Nat := 70
def mS_weightAt : Nat := 71
def mS_add : Nat := 72
def mS_remove : Nat := 73
def mS_place : Nat := 74
def mS_commonDivisor : Nat := 75
def mS_liesJustAt : Nat := 76
def mS_liesAsIn : Nat := 77
def mS_gap : Nat := 78
def mS_span : Nat := 79
def mS_apart : Nat := 80
def mS_dotsAheadOf : Nat := 81
def mS_spotColumn : Nat := 82
def mS_spotRow : Nat := 83
def mS_nearestWhole : Nat := 84
def mS_spotOf : Nat := 85
def mS_spotsWithin : Nat := 86
def mS_greyWithin : Nat := 87
def mS_sumByShade : Nat := 88
def mS_markBusy : Nat := 89
def mS_freeGreyCells : Nat := 90
def mS_drawOne : Nat := 91
def mS_drawBelow : Nat := 92
def mF_init : Nat := 93
def mF_survey : Nat := 94
def mF_round : Nat := 95
def mF_wipeOwners : Nat := 96
def mF_offer : Nat := 97
def mF_addUp : Nat := 98
def mF_addCell : Nat := 99
def mF_worstOf : Nat := 100
def mF_farthestOf : Nat := 101
def mF_cellsAtEdge : Nat := 102
def mF_ownsShade : Nat := 103
def mK_init : Nat := 104
def mK_countCouples : Nat := 105
def mK_join : Nat := 106
def mK_couplesOfTwo : Nat := 107
def mK_couplesOf : Nat := 108
def mK_fewestSteps : Nat := 109
def mK_piecesOf : Nat := 110
def mK_clearPiece : Nat := 111
def mK_push : Nat := 112
def mP_init : Nat := 113
def mP_clear : Nat := 114
def mP_keep : Nat := 115
def mP_swapBack : Nat := 116
def mP_swapForth : Nat := 117
def mP_slotOf : Nat := 118
def mP_swap : Nat := 119
def mQ_init : Nat := 120
def mQ_leaveOut : Nat := 121
def mQ_priceOfOthers : Nat := 122
def mQ_sum : Nat := 123
def mQ_findCheapest : Nat := 124
def mQ_sumWithOneAt : Nat := 125
def mR_init : Nat := 126
def mR_hasRoom : Nat := 127
def mR_append : Nat := 128
def mR_handOver : Nat := 129
def mR_read : Nat := 130
def mR_readSize : Nat := 131
def mR_readLine : Nat := 132
def mR_readRow : Nat := 133
def mR_readDot : Nat := 134
def mR_readNumber : Nat := 135
def mR_valueOfDigits : Nat := 136
def mR_readSign : Nat := 137
def mR_expect : Nat := 138
def mR_fail : Nat := 139
def mR_isWord : Nat := 140
def mR_next : Nat := 141
def mR_isAtLetter : Nat := 142
def mR_kindOf : Nat := 143
def mT_init : Nat := 144
def mT_clear : Nat := 145
def mT_add : Nat := 146
def mT_movedAt : Nat := 147
def mT_costAt : Nat := 148
def mA_init : Nat := 149
def mA_forget : Nat := 150
def mA_lookOne : Nat := 151
def mA_lookToEnd : Nat := 152
def mB_init : Nat := 153
def mB_keep : Nat := 154
def mB_otherOwners : Nat := 155
def mB_otherWeights : Nat := 156
def mB_otherDots : Nat := 157
def mM_init : Nat := 158
def mM_isIn : Nat := 159
def mM_truth : Nat := 160
def mM_greater : Nat := 161
def mM_size : Nat := 162
def mM_feed : Nat := 163
def mM_four : Nat := 164
def mM_end : Nat := 165
def mM_here : Nat := 166
def mM_isLetter : Nat := 167
def mM_isDigit : Nat := 168
def mM_goOn : Nat := 169
def mM_wrong : Nat := 170
def mM_isGood : Nat := 171
def mM_isWord : Nat := 172
def mM_number : Nat := 173
def mM_ends : Nat := 174
def mM_rowLine : Nat := 175
def mM_dotLine : Nat := 176
def mM_picture : Nat := 177
def mM_fault : Nat := 178
def mM_act : Nat := 179
def mM_otherAct : Nat := 180
def mM_exchanges : Nat := 181
def mM_undo : Nat := 182
def mM_redo : Nat := 183
def mM_wide : Nat := 184
def mM_high : Nat := 185
def mM_cells : Nat := 186
def mM_dots : Nat := 187
def mM_isCell : Nat := 188
def mM_isDot : Nat := 189
def mM_weight : Nat := 190
def mM_numberOf : Nat := 191
def mM_divisor : Nat := 192
def mM_lays : Nat := 193
def mM_xOf : Nat := 194
def mM_yOf : Nat := 195
def mM_under : Nat := 196
def mM_upper : Nat := 197
def mM_lower : Nat := 198
def mM_isNearer : Nat := 199
def mM_laysOwners : Nat := 200
def mM_ownerBut : Nat := 201
def mM_costBy : Nat := 202
def mM_costBut : Nat := 203
def mM_allCost : Nat := 204
def mM_laysLoads : Nat := 205
def mM_liesAt : Nat := 206
def mM_allWeights : Nat := 207
def mM_comes : Nat := 208
def mM_put : Nat := 209
def mM_goes : Nat := 210
def mM_take : Nat := 211
def mM_move : Nat := 212
def mM_isBare : Nat := 213
def mM_drawOf : Nat := 214
def mM_drawsOne : Nat := 215
def mM_draw : Nat := 216
def mM_seed : Nat := 217
def mM_paint : Nat := 218
def mM_turn : Nat := 219
def mM_dearest : Nat := 220
def mM_nearestOn : Nat := 221
def mM_toMiddle : Nat := 222
def mM_isElsewhere : Nat := 223
def mM_round : Nat := 224
def mM_notes : Nat := 225
def mM_rounds : Nat := 226
def mM_steps : Nat := 227
def mM_puts : Nat := 228
def mM_takesBack : Nat := 229
def mM_moves : Nat := 230
def mM_till : Nat := 231
def mM_apart : Nat := 232
def mM_step : Nat := 233
def mM_adapt : Nat := 234
def mM_spotOf : Nat := 235
def mM_areBeside : Nat := 236
def mM_meets : Nat := 237
def mM_piecesOf : Nat := 238
def mM_costOf : Nat := 239
def mM_dot : Nat := 240
def mM_spotsAt : Nat := 241
def mM_cell : Nat := 242
def mM_near : Nat := 243
def mM_far : Nat := 244
def mM_around : Nat := 245
def mM_ring : Nat := 246
def mM_closest : Nat := 247
def mM_loads : Nat := 248
def mM_touches : Nat := 249
def mM_touch : Nat := 250
def mM_way : Nat := 251
def mM_ownersOf : Nat := 252
def mM_shade : Nat := 253
def mM_isWithin : Nat := 254
def mM_weightsIn : Nat := 255
def mM_laysSpots : Nat := 256
def mM_dotsIn : Nat := 257
def mM_tone : Nat := 258
def mM_uneven : Nat := 259
def mM_lossOf : Nat := 260
def mM_loss : Nat := 261
def mM_idle : Nat := 262
def mM_costWith : Nat := 263
def mM_more : Nat := 264
def mM_costMoved : Nat := 265
def mM_best : Nat := 266
def mM_ties : Nat := 267
def mM_farthestOf : Nat := 268
def mM_outside : Nat := 269
def mM_edge : Nat := 270
def mM_due : Nat := 271
def mM_isBox : Nat := 272
def mM_image : Nat := 273
def mM_back : Nat := 274
def mM_otherOwners : Nat := 275
def mM_against : Nat := 276
def mM_emptyOnes : Nat := 277
def mM_about : Nat := 278
def mL_law : Nat := 279
def mJm_floorMod : Nat := 280
def mJm_abs : Nat := 281
def mJm_max : Nat := 282
def mJm_min : Nat := 283
def mJs_length : Nat := 284
def mJs_charAt : Nat := 285
def mJs_coder : Nat := 286
def mJs_isLatin1 : Nat := 287
def mJs_checkIndex : Nat := 288
def mJ1_charAt : Nat := 289
def mJa_fillL : Nat := 290
def mJa_fillI : Nat := 291
def mJp_checkIndex : Nat := 292
def mtl_0 : List MD := [
  (yX9_init, cX9_init, 2, none, { frames := 3, cells := 134, slots := 18248, locals := 61 }),
  (yX9_feed, cX9_feed, 6, some .int, { frames := 1, cells := 0, slots := 0, locals := 22 }),
  (yX9_end, cX9_end, 2, some .int, { frames := 0, cells := 0, slots := 0, locals := 0 }),
  (yX9_picture, cX9_picture, 2, some .int, { frames := 7, cells := 0, slots := 0, locals := 148 }),
  (yX9_fault, cX9_fault, 2, some .int, { frames := 0, cells := 0, slots := 0, locals := 0 }),
  (yX9_put, cX9_put, 3, some .int, { frames := 4, cells := 0, slots := 0, locals := 90 }),
  (yX9_take, cX9_take, 2, some .int, { frames := 4, cells := 0, slots := 0, locals := 90 }),
  (yX9_move, cX9_move, 4, some .boolean, { frames := 4, cells := 0, slots := 0, locals := 90 }),
  (yX9_draw, cX9_draw, 3, some .int, { frames := 4, cells := 0, slots := 0, locals := 101 }),
  (yX9_seed, cX9_seed, 3, some .int, { frames := 0, cells := 0, slots := 0, locals := 0 }),
  (yX9_paint, cX9_paint, 5, some .int, { frames := 4, cells := 0, slots := 0, locals := 90 }),
  (yX9_rounds, cX9_rounds, 7, some .int, { frames := 5, cells := 0, slots := 0, locals := 116 }),
  (yX9_adapt, cX9_adapt, 7, some .int, { frames := 5, cells := 0, slots := 0, locals := 116 }),
  (yX9_turn, cX9_turn, 2, some .int, { frames := 4, cells := 0, slots := 0, locals := 90 }),
  (yX9_undo, cX9_undo, 1, some .boolean, { frames := 2, cells := 0, slots := 0, locals := 44 }),
  (yX9_redo, cX9_redo, 1, some .boolean, { frames := 2, cells := 0, slots := 0, locals := 45 }),
  (yX9_dot, cX9_dot, 3, some .int, { frames := 5, cells := 0, slots := 0, locals := 116 }),
  (yX9_cell, cX9_cell, 5, some .int, { frames := 5, cells := 0, slots := 0, locals := 116 }),
  (yX9_near, cX9_near, 5, some .int, { frames := 2, cells := 0, slots := 0, locals := 60 }),
  (yX9_far, cX9_far, 9, some .int, { frames := 1, cells := 0, slots := 0, locals := 27 }),
  (yX9_around, cX9_around, 6, some .int, { frames := 1, cells := 0, slots := 0, locals := 27 }),
  (yX9_ring, cX9_ring, 6, some .int, { frames := 5, cells := 0, slots := 0, locals := 116 }),
  (yX9_closest, cX9_closest, 10, some .int, { frames := 2, cells := 0, slots := 0, locals := 56 }),
  (yX9_loads, cX9_loads, 3, some .int, { frames := 5, cells := 0, slots := 0, locals := 116 }),
  (yX9_ties, cX9_ties, 7, some .int, { frames := 5, cells := 0, slots := 0, locals := 116 }),
  (yX9_due, cX9_due, 8, some .int, { frames := 2, cells := 0, slots := 0, locals := 45 }),
  (yX9_best, cX9_best, 3, some .int, { frames := 5, cells := 0, slots := 0, locals := 116 }),
  (yX9_edge, cX9_edge, 3, some .int, { frames := 5, cells := 0, slots := 0, locals := 116 }),
  (yX9_touch, cX9_touch, 3, some .int, { frames := 5, cells := 0, slots := 0, locals := 116 }),
  (yX9_way, cX9_way, 3, some .int, { frames := 5, cells := 0, slots := 0, locals := 116 }),
  (yX9_shade, cX9_shade, 3, some .int, { frames := 6, cells := 0, slots := 0, locals := 139 }),
  (yX9_step, cX9_step, 2, some .int, { frames := 5, cells := 0, slots := 0, locals := 119 }),
  (yX9_moves, cX9_moves, 1, some .int, { frames := 5, cells := 0, slots := 0, locals := 119 }),
  (yX9_till, cX9_till, 2, some .int, { frames := 6, cells := 0, slots := 0, locals := 142 }),
  (yX9_steps, cX9_steps, 3, some .int, { frames := 2, cells := 0, slots := 0, locals := 43 }),
  (yX9_loss, cX9_loss, 2, some .int, { frames := 5, cells := 0, slots := 0, locals := 116 }),
  (yX9_idle, cX9_idle, 5, some .int, { frames := 5, cells := 0, slots := 0, locals := 116 }),
  (yX9_more, cX9_more, 2, some .int, { frames := 5, cells := 0, slots := 0, locals := 116 }),
  (yX9_tone, cX9_tone, 6, some .int, { frames := 3, cells := 0, slots := 0, locals := 70 }),
  (yX9_uneven, cX9_uneven, 10, some .int, { frames := 3, cells := 0, slots := 0, locals := 70 })]
def mtI_0 : List (Nat × Nat × Nat × Nat × Nat × Nat) := [(2, 0, 7023, 7001, 7022, 0), (0, 5, 8127, 7001, 8125, 8126), (0, 1, 8139, 7001, 8137, 8138), (0, 0, 8143, 7001, 8141, 8142), (0, 1, 9056, 7001, 9054, 9055), (0, 2, 9060, 7001, 9058, 9059), (0, 1, 9088, 7001, 9086, 9087), (0, 3, 9100, 7001, 9098, 9099), (0, 1, 9109, 7001, 9107, 9108), (0, 1, 9149, 7001, 9147, 9148), (0, 3, 9153, 7001, 9151, 9152), (0, 1, 9161, 7001, 9159, 9160), (0, 2, 9216, 7001, 9214, 9215), (0, 0, 9231, 7001, 9229, 9230), (0, 0, 9239, 7001, 9237, 9238), (0, 0, 10011, 7001, 10009, 10010), (0, 2, 10019, 7001, 10017, 10018), (0, 3, 10053, 7001, 10051, 10052), (0, 3, 10062, 7001, 10060, 10061), (0, 4, 10078, 7001, 10076, 10077), (0, 3, 10087, 7001, 10085, 10086), (0, 2, 10091, 7001, 10089, 10090), (0, 1, 10101, 7001, 10099, 10100), (0, 1, 10112, 7001, 10110, 10111), (0, 2, 10126, 7001, 10124, 10125), (0, 1, 10130, 7001, 10128, 10129), (0, 2, 10138, 7001, 10136, 10137), (0, 2, 10164, 7001, 10162, 10163), (0, 2, 10195, 7001, 10193, 10194), (0, 2, 10200, 7001, 10198, 10199), (0, 2, 10208, 7001, 10206, 10207), (0, 1, 10233, 7001, 10231, 10232), (0, 0, 11004, 7001, 11002, 11003), (0, 1, 11008, 7001, 11006, 11007), (0, 2, 11017, 7001, 11015, 11016), (0, 1, 11032, 7001, 11030, 11031), (0, 0, 11041, 7001, 11039, 11040), (0, 1, 11045, 7001, 11043, 11044), (0, 5, 11049, 7001, 11047, 11048), (0, 2, 11057, 7001, 11055, 11056)]
def mtl_1 : List MD := [
  (yX9_against, cX9_against, 3, some .int, { frames := 5, cells := 0, slots := 0, locals := 116 }),
  (yX9_image, cX9_image, 2, some .int, { frames := 5, cells := 0, slots := 0, locals := 116 }),
  (yX9_back, cX9_back, 2, some .int, { frames := 3, cells := 0, slots := 0, locals := 60 }),
  (yX9_about, cX9_about, 2, some .int, { frames := 6, cells := 0, slots := 0, locals := 138 }),
  (yX9_upToDate, cX9_upToDate, 1, some (.object "SettledDots$Field"), { frames := 4, cells := 0, slots := 0, locals := 96 }),
  (yX9_forgetWhatWasSeen, cX9_forgetWhatWasSeen, 1, none, { frames := 1, cells := 0, slots := 0, locals := 20 }),
  (yX9_beginAct, cX9_beginAct, 2, some (.object "SettledDots$Scene"), { frames := 3, cells := 0, slots := 0, locals := 69 }),
  (yX9_startAnew, cX9_startAnew, 1, none, { frames := 2, cells := 0, slots := 0, locals := 40 }),
  (yX9_isBox, cX9_isBox, 1, some .boolean, { frames := 0, cells := 0, slots := 0, locals := 0 }),
  (yX9_countLeft, cX9_countLeft, 5, some .int, { frames := 0, cells := 0, slots := 0, locals := 0 }),
  (yX9_planAdded, cX9_planAdded, 7, some .int, { frames := 2, cells := 0, slots := 0, locals := 50 }),
  (yX9_firstGreatest, cX9_firstGreatest, 4, some .int, { frames := 0, cells := 0, slots := 0, locals := 0 }),
  (yX9_leastOf, cX9_leastOf, 4, some .int, { frames := 1, cells := 0, slots := 0, locals := 21 }),
  (yX9_emptyDots, cX9_emptyDots, 3, some .int, { frames := 5, cells := 0, slots := 0, locals := 116 }),
  (yX9_cellsOfShade, cX9_cellsOfShade, 4, some .int, { frames := 1, cells := 0, slots := 0, locals := 20 }),
  (yX9_spotsOfShade, cX9_spotsOfShade, 4, some .int, { frames := 3, cells := 0, slots := 0, locals := 63 }),
  (yX9_ownersOfShade, cX9_ownersOfShade, 4, some .int, { frames := 5, cells := 0, slots := 0, locals := 116 }),
  (yX9_costOfShade, cX9_costOfShade, 4, some .int, { frames := 5, cells := 0, slots := 0, locals := 116 }),
  (yX9_divide, cX9_divide, 4, some .long, { frames := 0, cells := 0, slots := 0, locals := 0 }),
  (yX9_price, cX9_price, 5, some .int, { frames := 0, cells := 0, slots := 0, locals := 0 }),
  (yX7_init, cX7_init, 1, none, { frames := 1, cells := 4, slots := 520, locals := 20 }),
  (yX7_clear, cX7_clear, 1, none, { frames := 1, cells := 0, slots := 0, locals := 23 }),
  (yX7_copy, cX7_copy, 2, none, { frames := 1, cells := 0, slots := 0, locals := 26 }),
  (yX7_becomeQuarterTurnOf, cX7_becomeQuarterTurnOf, 4, none, { frames := 0, cells := 0, slots := 0, locals := 0 }),
  (yX7_size, cX7_size, 1, some .int, { frames := 0, cells := 0, slots := 0, locals := 0 }),
  (yX7_isAsLargeAs, cX7_isAsLargeAs, 2, some .boolean, { frames := 0, cells := 0, slots := 0, locals := 0 }),
  (yX7_holds, cX7_holds, 3, some .boolean, { frames := 0, cells := 0, slots := 0, locals := 0 }),
  (yX7_has, cX7_has, 2, some .boolean, { frames := 0, cells := 0, slots := 0, locals := 0 }),
  (yX7_numberOf, cX7_numberOf, 3, some .int, { frames := 0, cells := 0, slots := 0, locals := 0 }),
  (yX7_columnOf, cX7_columnOf, 2, some .int, { frames := 0, cells := 0, slots := 0, locals := 0 }),
  (yX7_rowOf, cX7_rowOf, 2, some .int, { frames := 0, cells := 0, slots := 0, locals := 0 }),
  (yX7_weightAt, cX7_weightAt, 3, some .int, { frames := 0, cells := 0, slots := 0, locals := 0 }),
  (yX7_add, cX7_add, 3, none, { frames := 2, cells := 0, slots := 0, locals := 54 }),
  (yX7_remove, cX7_remove, 3, none, { frames := 0, cells := 0, slots := 0, locals := 0 }),
  (yX7_place, cX7_place, 10, some .boolean, { frames := 1, cells := 0, slots := 0, locals := 25 }),
  (yX7_commonDivisor, cX7_commonDivisor, 6, some .int, { frames := 0, cells := 0, slots := 0, locals := 0 }),
  (yX7_liesJustAt, cX7_liesJustAt, 4, some .boolean, { frames := 0, cells := 0, slots := 0, locals := 0 }),
  (yX7_liesAsIn, cX7_liesAsIn, 3, some .boolean, { frames := 0, cells := 0, slots := 0, locals := 0 }),
  (yX7_gap, cX7_gap, 8, some .long, { frames := 0, cells := 0, slots := 0, locals := 0 }),
  (yX7_span, cX7_span, 2, some .long, { frames := 0, cells := 0, slots := 0, locals := 0 })]
def mtI_1 : List (Nat × Nat × Nat × Nat × Nat × Nat) := [(0, 2, 11062, 7001, 11060, 11061), (0, 1, 11090, 7001, 11088, 11089), (0, 1, 11100, 7001, 11098, 11099), (0, 1, 11105, 7001, 11103, 11104), (0, 0, 9165, 7001, 9164, 1001), (0, 0, 9047, 7001, 9046, 13), (0, 0, 9068, 7001, 9067, 14), (0, 0, 9035, 7001, 9034, 12), (1, 1, 11065, 7001, 11064, 0), (0, 2, 9220, 7001, 9219, 1006), (0, 3, 9224, 7001, 9223, 1007), (0, 1, 10116, 7001, 10115, 1013), (0, 1, 10120, 7001, 10119, 1014), (0, 0, 11109, 7001, 11108, 2005), (0, 1, 10212, 7001, 10211, 2001), (0, 1, 10217, 7001, 10216, 2002), (0, 1, 10221, 7001, 10220, 2003), (0, 1, 10229, 7001, 10228, 2004), (1, 2, 10083, 7001, 10082, 0), (1, 3, 9192, 7001, 9191, 0), (2, 0, 7031, 7002, 7030, 0), (0, 0, 8151, 7002, 8149, 8150), (0, 1, 9080, 7002, 9078, 9079), (0, 1, 9235, 7002, 9233, 9234), (0, 0, 9117, 7002, 9115, 9116), (0, 1, 11069, 7002, 11067, 11068), (0, 2, 9064, 7002, 9062, 9063), (0, 1, 9092, 7002, 9090, 9091), (0, 2, 9121, 7002, 9119, 9120), (0, 1, 9140, 7002, 9138, 9139), (0, 1, 9144, 7002, 9142, 9143), (0, 2, 9157, 7002, 9155, 9156), (0, 2, 9020, 7002, 9018, 9019), (0, 1, 9096, 7002, 9094, 9095), (0, 4, 9024, 7002, 9022, 9023), (1, 2, 9027, 7002, 9026, 0), (0, 3, 9104, 7002, 9102, 9103), (0, 2, 11086, 7002, 11084, 11085), (0, 3, 10070, 7002, 10068, 10069), (0, 1, 10074, 7002, 10072, 10073)]
def mtl_2 : List MD := [
  (yX7_apart, cX7_apart, 14, some .long, { frames := 1, cells := 0, slots := 0, locals := 23 }),
  (yX7_dotsAheadOf, cX7_dotsAheadOf, 14, some .int, { frames := 1, cells := 0, slots := 0, locals := 27 }),
  (yX7_spotColumn, cX7_spotColumn, 2, some .int, { frames := 1, cells := 0, slots := 0, locals := 21 }),
  (yX7_spotRow, cX7_spotRow, 2, some .int, { frames := 1, cells := 0, slots := 0, locals := 21 }),
  (yX7_nearestWhole, cX7_nearestWhole, 2, some .int, { frames := 0, cells := 0, slots := 0, locals := 0 }),
  (yX7_spotOf, cX7_spotOf, 2, some .int, { frames := 2, cells := 0, slots := 0, locals := 42 }),
  (yX7_spotsWithin, cX7_spotsWithin, 9, some .int, { frames := 2, cells := 0, slots := 0, locals := 42 }),
  (yX7_greyWithin, cX7_greyWithin, 8, some .int, { frames := 0, cells := 0, slots := 0, locals := 0 }),
  (yX7_sumByShade, cX7_sumByShade, 3, none, { frames := 1, cells := 0, slots := 0, locals := 23 }),
  (yX7_markBusy, cX7_markBusy, 3, none, { frames := 1, cells := 0, slots := 0, locals := 22 }),
  (yX7_freeGreyCells, cX7_freeGreyCells, 4, some .int, { frames := 1, cells := 0, slots := 0, locals := 20 }),
  (yX7_drawOne, cX7_drawOne, 6, none, { frames := 3, cells := 0, slots := 0, locals := 76 }),
  (yX7_drawBelow, cX7_drawBelow, 2, some .int, { frames := 0, cells := 0, slots := 0, locals := 0 }),
  (yX2_init, cX2_init, 1, none, { frames := 1, cells := 9, slots := 1800, locals := 20 }),
  (yX2_survey, cX2_survey, 3, none, { frames := 3, cells := 0, slots := 0, locals := 74 }),
  (yX2_round, cX2_round, 5, some .int, { frames := 3, cells := 0, slots := 0, locals := 74 }),
  (yX2_wipeOwners, cX2_wipeOwners, 1, none, { frames := 1, cells := 0, slots := 0, locals := 24 }),
  (yX2_offer, cX2_offer, 22, none, { frames := 0, cells := 0, slots := 0, locals := 0 }),
  (yX2_addUp, cX2_addUp, 5, none, { frames := 2, cells := 0, slots := 0, locals := 50 }),
  (yX2_addCell, cX2_addCell, 7, none, { frames := 1, cells := 0, slots := 0, locals := 24 }),
  (yX2_worstOf, cX2_worstOf, 11, some .int, { frames := 1, cells := 0, slots := 0, locals := 20 }),
  (yX2_farthestOf, cX2_farthestOf, 5, some .int, { frames := 1, cells := 0, slots := 0, locals := 20 }),
  (yX2_cellsAtEdge, cX2_cellsAtEdge, 7, some .int, { frames := 1, cells := 0, slots := 0, locals := 22 }),
  (yX2_ownsShade, cX2_ownsShade, 5, some .boolean, { frames := 1, cells := 0, slots := 0, locals := 20 }),
  (yX3_init, cX3_init, 1, none, { frames := 1, cells := 5, slots := 2480, locals := 20 }),
  (yX3_countCouples, cX3_countCouples, 6, none, { frames := 1, cells := 0, slots := 0, locals := 23 }),
  (yX3_join, cX3_join, 3, none, { frames := 0, cells := 0, slots := 0, locals := 0 }),
  (yX3_couplesOfTwo, cX3_couplesOfTwo, 3, some .int, { frames := 0, cells := 0, slots := 0, locals := 0 }),
  (yX3_couplesOf, cX3_couplesOf, 5, some .int, { frames := 1, cells := 0, slots := 0, locals := 22 }),
  (yX3_fewestSteps, cX3_fewestSteps, 8, some .int, { frames := 1, cells := 0, slots := 0, locals := 23 }),
  (yX3_piecesOf, cX3_piecesOf, 6, some .int, { frames := 2, cells := 0, slots := 0, locals := 47 }),
  (yX3_clearPiece, cX3_clearPiece, 7, none, { frames := 1, cells := 0, slots := 0, locals := 21 }),
  (yX3_push, cX3_push, 2, none, { frames := 0, cells := 0, slots := 0, locals := 0 }),
  (yX4_init, cX4_init, 2, none, { frames := 2, cells := 61, slots := 6348, locals := 40 }),
  (yX4_clear, cX4_clear, 1, none, { frames := 0, cells := 0, slots := 0, locals := 0 }),
  (yX4_keep, cX4_keep, 3, some (.object "SettledDots$Scene"), { frames := 2, cells := 0, slots := 0, locals := 47 }),
  (yX4_swapBack, cX4_swapBack, 2, some (.object "SettledDots$Scene"), { frames := 1, cells := 0, slots := 0, locals := 23 }),
  (yX4_swapForth, cX4_swapForth, 3, some (.object "SettledDots$Scene"), { frames := 1, cells := 0, slots := 0, locals := 23 }),
  (yX4_slotOf, cX4_slotOf, 2, some .int, { frames := 0, cells := 0, slots := 0, locals := 0 }),
  (yX4_swap, cX4_swap, 4, some (.object "SettledDots$Scene"), { frames := 0, cells := 0, slots := 0, locals := 0 })]
def mtI_2 : List (Nat × Nat × Nat × Nat × Nat × Nat) := [(0, 3, 10106, 7002, 10104, 10105), (0, 3, 10066, 7002, 10064, 10065), (0, 1, 10027, 7002, 10026, 1009), (0, 1, 10034, 7002, 10033, 1010), (1, 2, 10030, 7002, 10029, 0), (0, 1, 10023, 7002, 10021, 10022), (0, 4, 10058, 7002, 10056, 10057), (0, 4, 11053, 7002, 11051, 11052), (0, 1, 10134, 7002, 10132, 10133), (0, 1, 9113, 7002, 9111, 9112), (0, 1, 9125, 7002, 9123, 9124), (0, 1, 9129, 7002, 9127, 9128), (0, 1, 9133, 7002, 9132, 1000), (2, 0, 7090, 7003, 7089, 0), (0, 1, 9169, 7003, 9167, 9168), (0, 1, 9197, 7003, 9195, 9196), (0, 0, 9173, 7003, 9172, 1002), (0, 2, 9181, 7003, 9180, 1003), (0, 1, 9185, 7003, 9184, 1004), (0, 4, 9189, 7003, 9188, 1005), (0, 2, 9202, 7003, 9200, 9201), (0, 2, 10168, 7003, 10166, 10167), (0, 2, 10190, 7003, 10188, 10189), (0, 3, 10225, 7003, 10223, 10224), (2, 0, 8041, 7009, 8040, 0), (0, 2, 10172, 7009, 10170, 10171), (0, 2, 10178, 7009, 10177, 2000), (0, 2, 10186, 7009, 10184, 10185), (0, 2, 10182, 7009, 10180, 10181), (0, 3, 10204, 7009, 10202, 10203), (0, 3, 10038, 7009, 10036, 10037), (0, 2, 10043, 7009, 10042, 1011), (0, 1, 10047, 7009, 10046, 1012), (2, 0, 7180, 7005, 7179, 0), (0, 0, 9039, 7005, 9037, 9038), (0, 1, 9072, 7005, 9070, 9071), (0, 1, 10003, 7005, 10001, 10002), (0, 1, 10015, 7005, 10013, 10014), (0, 1, 9076, 7005, 9075, 15), (0, 2, 10007, 7005, 10006, 1008)]
def mtl_3 : List MD := [
  (yX5_init, cX5_init, 1, none, { frames := 1, cells := 1, slots := 400, locals := 20 }),
  (yX5_leaveOut, cX5_leaveOut, 7, none, { frames := 2, cells := 0, slots := 0, locals := 54 }),
  (yX5_priceOfOthers, cX5_priceOfOthers, 8, some .int, { frames := 1, cells := 0, slots := 0, locals := 27 }),
  (yX5_sum, cX5_sum, 4, some .int, { frames := 1, cells := 0, slots := 0, locals := 20 }),
  (yX5_findCheapest, cX5_findCheapest, 5, none, { frames := 2, cells := 0, slots := 0, locals := 50 }),
  (yX5_sumWithOneAt, cX5_sumWithOneAt, 10, some .int, { frames := 1, cells := 0, slots := 0, locals := 21 }),
  (yX6_init, cX6_init, 1, none, { frames := 2, cells := 6, slots := 1428, locals := 40 }),
  (yX6_hasRoom, cX6_hasRoom, 1, some .boolean, { frames := 0, cells := 0, slots := 0, locals := 0 }),
  (yX6_append, cX6_append, 3, none, { frames := 0, cells := 0, slots := 0, locals := 0 }),
  (yX6_handOver, cX6_handOver, 3, some (.object "SettledDots$Scene"), { frames := 0, cells := 0, slots := 0, locals := 0 }),
  (yX6_read, cX6_read, 2, some .boolean, { frames := 6, cells := 0, slots := 0, locals := 127 }),
  (yX6_readSize, cX6_readSize, 1, none, { frames := 4, cells := 0, slots := 0, locals := 83 }),
  (yX6_readLine, cX6_readLine, 1, none, { frames := 5, cells := 0, slots := 0, locals := 107 }),
  (yX6_readRow, cX6_readRow, 2, none, { frames := 4, cells := 0, slots := 0, locals := 80 }),
  (yX6_readDot, cX6_readDot, 3, none, { frames := 4, cells := 0, slots := 0, locals := 83 }),
  (yX6_readNumber, cX6_readNumber, 4, some .int, { frames := 3, cells := 0, slots := 0, locals := 60 }),
  (yX6_valueOfDigits, cX6_valueOfDigits, 3, some .int, { frames := 0, cells := 0, slots := 0, locals := 0 }),
  (yX6_readSign, cX6_readSign, 1, none, { frames := 3, cells := 0, slots := 0, locals := 60 }),
  (yX6_expect, cX6_expect, 2, some .boolean, { frames := 1, cells := 0, slots := 0, locals := 21 }),
  (yX6_fail, cX6_fail, 2, none, { frames := 0, cells := 0, slots := 0, locals := 0 }),
  (yX6_isWord, cX6_isWord, 3, some .boolean, { frames := 4, cells := 0, slots := 0, locals := 85 }),
  (yX6_next, cX6_next, 1, none, { frames := 2, cells := 0, slots := 0, locals := 40 }),
  (yX6_isAtLetter, cX6_isAtLetter, 1, some .boolean, { frames := 1, cells := 0, slots := 0, locals := 20 }),
  (yX6_kindOf, cX6_kindOf, 1, some .int, { frames := 0, cells := 0, slots := 0, locals := 0 }),
  (yX8_init, cX8_init, 1, none, { frames := 1, cells := 2, slots := 40, locals := 20 }),
  (yX8_clear, cX8_clear, 1, none, { frames := 0, cells := 0, slots := 0, locals := 0 }),
  (yX8_add, cX8_add, 3, none, { frames := 1, cells := 0, slots := 0, locals := 21 }),
  (yX8_movedAt, cX8_movedAt, 2, some .int, { frames := 1, cells := 0, slots := 0, locals := 22 }),
  (yX8_costAt, cX8_costAt, 2, some .int, { frames := 1, cells := 0, slots := 0, locals := 22 }),
  (yX0_init, cX0_init, 1, none, { frames := 2, cells := 20, slots := 2866, locals := 40 }),
  (yX0_forget, cX0_forget, 1, none, { frames := 0, cells := 0, slots := 0, locals := 0 }),
  (yX0_lookOne, cX0_lookOne, 2, none, { frames := 4, cells := 0, slots := 0, locals := 98 }),
  (yX0_lookToEnd, cX0_lookToEnd, 4, none, { frames := 5, cells := 0, slots := 0, locals := 119 }),
  (yX1_init, cX1_init, 1, none, { frames := 2, cells := 6, slots := 928, locals := 40 }),
  (yX1_keep, cX1_keep, 3, none, { frames := 2, cells := 0, slots := 0, locals := 47 }),
  (yX1_otherOwners, cX1_otherOwners, 5, some .int, { frames := 1, cells := 0, slots := 0, locals := 20 }),
  (yX1_otherWeights, cX1_otherWeights, 4, some .int, { frames := 1, cells := 0, slots := 0, locals := 20 }),
  (yX1_otherDots, cX1_otherDots, 4, some .int, { frames := 1, cells := 0, slots := 0, locals := 22 }),
  (yX10_init, cX10_init, 1, none, { frames := 1, cells := 23, slots := 11840, locals := 20 }),
  (yX10_isIn, cX10_isIn, 6, some .boolean, { frames := 0, cells := 0, slots := 0, locals := 0 })]
def mtI_3 : List (Nat × Nat × Nat × Nat × Nat × Nat) := [(2, 0, 8023, 7008, 8022, 0), (0, 3, 10142, 7008, 10140, 10141), (1, 4, 10145, 7008, 10144, 0), (0, 1, 11036, 7008, 11034, 11035), (0, 1, 10155, 7008, 10153, 10154), (0, 3, 10159, 7008, 10158, 1015), (2, 0, 7141, 7004, 7140, 0), (0, 0, 8131, 7004, 8129, 8130), (0, 1, 8135, 7004, 8133, 8134), (0, 1, 9031, 7004, 9029, 9030), (0, 0, 8147, 7004, 8145, 8146), (0, 0, 8222, 7004, 8221, 3), (0, 0, 9006, 7004, 9005, 9), (0, 0, 9011, 7004, 9010, 10), (0, 0, 9016, 7004, 9015, 11), (0, 2, 8226, 7004, 8225, 4), (0, 0, 8238, 7004, 8237, 7), (0, 0, 9002, 7004, 9001, 8), (0, 1, 8230, 7004, 8229, 5), (0, 1, 8234, 7004, 8233, 6), (0, 1, 8170, 7004, 8169, 2), (0, 0, 8158, 7004, 8157, 0), (0, 0, 8165, 7004, 8164, 1), (1, 1, 8161, 7004, 8160, 0), (2, 0, 7204, 7006, 7203, 0), (0, 0, 9043, 7006, 9041, 9042), (0, 2, 9209, 7006, 9207, 9208), (0, 1, 11021, 7006, 11019, 11020), (0, 1, 11028, 7006, 11026, 11027), (2, 0, 7224, 7007, 7223, 0), (0, 0, 9051, 7007, 9049, 9050), (0, 1, 10237, 7007, 10235, 10236), (0, 1, 11012, 7007, 11010, 11011), (2, 0, 8068, 7010, 8067, 0), (0, 2, 11094, 7010, 11092, 11093), (0, 2, 11073, 7010, 11071, 11072), (0, 1, 11078, 7010, 11076, 11077), (0, 1, 11082, 7010, 11080, 11081), (2, 0, 11114, 7011, 11113, 0), (1, 3, 12011, 7011, 12010, 0)]
def mtl_4 : List MD := [
  (yX10_truth, cX10_truth, 1, some .int, { frames := 0, cells := 0, slots := 0, locals := 0 }),
  (yX10_greater, cX10_greater, 2, some .int, { frames := 0, cells := 0, slots := 0, locals := 0 }),
  (yX10_size, cX10_size, 1, some .int, { frames := 0, cells := 0, slots := 0, locals := 0 }),
  (yX10_feed, cX10_feed, 6, some .int, { frames := 1, cells := 0, slots := 0, locals := 22 }),
  (yX10_four, cX10_four, 3, none, { frames := 0, cells := 0, slots := 0, locals := 0 }),
  (yX10_end, cX10_end, 2, some .int, { frames := 1, cells := 0, slots := 0, locals := 25 }),
  (yX10_here, cX10_here, 2, some .int, { frames := 0, cells := 0, slots := 0, locals := 0 }),
  (yX10_isLetter, cX10_isLetter, 1, some .boolean, { frames := 0, cells := 0, slots := 0, locals := 0 }),
  (yX10_isDigit, cX10_isDigit, 1, some .boolean, { frames := 0, cells := 0, slots := 0, locals := 0 }),
  (yX10_goOn, cX10_goOn, 1, none, { frames := 1, cells := 0, slots := 0, locals := 21 }),
  (yX10_wrong, cX10_wrong, 2, none, { frames := 0, cells := 0, slots := 0, locals := 0 }),
  (yX10_isGood, cX10_isGood, 1, some .boolean, { frames := 0, cells := 0, slots := 0, locals := 0 }),
  (yX10_isWord, cX10_isWord, 3, some .boolean, { frames := 0, cells := 0, slots := 0, locals := 0 }),
  (yX10_number, cX10_number, 4, some .int, { frames := 2, cells := 0, slots := 0, locals := 41 }),
  (yX10_ends, cX10_ends, 1, none, { frames := 2, cells := 0, slots := 0, locals := 41 }),
  (yX10_rowLine, cX10_rowLine, 2, none, { frames := 2, cells := 0, slots := 0, locals := 41 }),
  (yX10_dotLine, cX10_dotLine, 4, none, { frames := 3, cells := 0, slots := 0, locals := 64 }),
  (yX10_picture, cX10_picture, 2, some .int, { frames := 4, cells := 0, slots := 0, locals := 87 }),
  (yX10_fault, cX10_fault, 2, some .int, { frames := 0, cells := 0, slots := 0, locals := 0 }),
  (yX10_act, cX10_act, 2, none, { frames := 0, cells := 0, slots := 0, locals := 0 }),
  (yX10_otherAct, cX10_otherAct, 1, none, { frames := 1, cells := 0, slots := 0, locals := 21 }),
  (yX10_exchanges, cX10_exchanges, 4, none, { frames := 0, cells := 0, slots := 0, locals := 0 }),
  (yX10_undo, cX10_undo, 1, some .boolean, { frames := 1, cells := 0, slots := 0, locals := 23 }),
  (yX10_redo, cX10_redo, 1, some .boolean, { frames := 1, cells := 0, slots := 0, locals := 23 }),
  (yX10_wide, cX10_wide, 1, some .int, { frames := 0, cells := 0, slots := 0, locals := 0 }),
  (yX10_high, cX10_high, 1, some .int, { frames := 0, cells := 0, slots := 0, locals := 0 }),
  (yX10_cells, cX10_cells, 1, some .int, { frames := 1, cells := 0, slots := 0, locals := 20 }),
  (yX10_dots, cX10_dots, 1, some .int, { frames := 0, cells := 0, slots := 0, locals := 0 }),
  (yX10_isCell, cX10_isCell, 3, some .boolean, { frames := 1, cells := 0, slots := 0, locals := 25 }),
  (yX10_isDot, cX10_isDot, 2, some .boolean, { frames := 1, cells := 0, slots := 0, locals := 25 }),
  (yX10_weight, cX10_weight, 2, some .int, { frames := 0, cells := 0, slots := 0, locals := 0 }),
  (yX10_numberOf, cX10_numberOf, 3, some .int, { frames := 1, cells := 0, slots := 0, locals := 20 }),
  (yX10_divisor, cX10_divisor, 5, some .int, { frames := 0, cells := 0, slots := 0, locals := 0 }),
  (yX10_lays, cX10_lays, 6, none, { frames := 1, cells := 0, slots := 0, locals := 24 }),
  (yX10_xOf, cX10_xOf, 2, some .int, { frames := 0, cells := 0, slots := 0, locals := 0 }),
  (yX10_yOf, cX10_yOf, 2, some .int, { frames := 0, cells := 0, slots := 0, locals := 0 }),
  (yX10_under, cX10_under, 2, some .long, { frames := 0, cells := 0, slots := 0, locals := 0 }),
  (yX10_upper, cX10_upper, 7, some .long, { frames := 1, cells := 0, slots := 0, locals := 21 }),
  (yX10_lower, cX10_lower, 2, some .long, { frames := 1, cells := 0, slots := 0, locals := 21 }),
  (yX10_isNearer, cX10_isNearer, 4, some .boolean, { frames := 2, cells := 0, slots := 0, locals := 47 })]
def mtI_4 : List (Nat × Nat × Nat × Nat × Nat × Nat) := [(1, 1, 12170, 7011, 12169, 0), (1, 2, 13109, 7011, 13108, 0), (1, 1, 12115, 7011, 12114, 0), (0, 5, 12000, 7011, 11238, 11239), (0, 1, 12004, 7011, 12003, 2006), (0, 1, 12008, 7011, 12006, 12007), (0, 1, 12023, 7011, 12022, 2008), (1, 1, 12026, 7011, 12025, 0), (1, 1, 12029, 7011, 12028, 0), (0, 0, 12019, 7011, 12018, 2007), (0, 1, 12042, 7011, 12041, 2011), (0, 0, 12046, 7011, 12045, 2012), (0, 1, 12034, 7011, 12033, 2009), (0, 2, 12038, 7011, 12037, 2010), (0, 0, 12050, 7011, 12049, 2013), (0, 0, 12055, 7011, 12054, 2014), (0, 0, 12060, 7011, 12059, 2015), (0, 0, 12015, 7011, 12013, 12014), (0, 1, 12064, 7011, 12062, 12063), (0, 0, 12104, 7011, 12103, 3006), (0, 0, 12100, 7011, 12099, 3005), (0, 1, 12072, 7011, 12071, 3000), (0, 0, 12068, 7011, 12066, 12067), (0, 0, 12076, 7011, 12074, 12075), (0, 0, 12088, 7011, 12087, 3002), (0, 0, 12092, 7011, 12091, 3003), (0, 0, 12159, 7011, 12158, 3015), (0, 0, 12096, 7011, 12095, 3004), (0, 2, 12084, 7011, 12083, 3001), (0, 1, 12126, 7011, 12125, 3009), (0, 1, 12163, 7011, 12162, 4000), (0, 2, 12195, 7011, 12194, 4004), (1, 2, 12118, 7011, 12117, 0), (0, 4, 12112, 7011, 12111, 3008), (0, 1, 12142, 7011, 12141, 3012), (0, 1, 12150, 7011, 12149, 3014), (0, 1, 12146, 7011, 12145, 3013), (0, 2, 12224, 7011, 12223, 4009), (0, 1, 12228, 7011, 12227, 4010), (0, 3, 12220, 7011, 12219, 4008)]
def mtl_5 : List MD := [
  (yX10_laysOwners, cX10_laysOwners, 2, none, { frames := 4, cells := 0, slots := 0, locals := 94 }),
  (yX10_ownerBut, cX10_ownerBut, 5, some .int, { frames := 3, cells := 0, slots := 0, locals := 70 }),
  (yX10_costBy, cX10_costBy, 3, some .long, { frames := 2, cells := 0, slots := 0, locals := 47 }),
  (yX10_costBut, cX10_costBut, 5, some .long, { frames := 4, cells := 0, slots := 0, locals := 94 }),
  (yX10_allCost, cX10_allCost, 1, some .int, { frames := 5, cells := 0, slots := 0, locals := 118 }),
  (yX10_laysLoads, cX10_laysLoads, 2, none, { frames := 5, cells := 0, slots := 0, locals := 115 }),
  (yX10_liesAt, cX10_liesAt, 4, some .boolean, { frames := 1, cells := 0, slots := 0, locals := 21 }),
  (yX10_allWeights, cX10_allWeights, 3, some .int, { frames := 2, cells := 0, slots := 0, locals := 40 }),
  (yX10_comes, cX10_comes, 3, none, { frames := 2, cells := 0, slots := 0, locals := 49 }),
  (yX10_put, cX10_put, 3, some .int, { frames := 3, cells := 0, slots := 0, locals := 71 }),
  (yX10_goes, cX10_goes, 3, none, { frames := 1, cells := 0, slots := 0, locals := 20 }),
  (yX10_take, cX10_take, 2, some .int, { frames := 2, cells := 0, slots := 0, locals := 46 }),
  (yX10_move, cX10_move, 4, some .boolean, { frames := 2, cells := 0, slots := 0, locals := 49 }),
  (yX10_isBare, cX10_isBare, 3, some .boolean, { frames := 2, cells := 0, slots := 0, locals := 44 }),
  (yX10_drawOf, cX10_drawOf, 2, some .int, { frames := 0, cells := 0, slots := 0, locals := 0 }),
  (yX10_drawsOne, cX10_drawsOne, 4, none, { frames := 3, cells := 0, slots := 0, locals := 71 }),
  (yX10_draw, cX10_draw, 4, some .int, { frames := 4, cells := 0, slots := 0, locals := 94 }),
  (yX10_seed, cX10_seed, 3, some .int, { frames := 0, cells := 0, slots := 0, locals := 0 }),
  (yX10_paint, cX10_paint, 5, some .int, { frames := 2, cells := 0, slots := 0, locals := 47 }),
  (yX10_turn, cX10_turn, 5, some .int, { frames := 2, cells := 0, slots := 0, locals := 49 }),
  (yX10_dearest, cX10_dearest, 11, some .int, { frames := 4, cells := 0, slots := 0, locals := 93 }),
  (yX10_nearestOn, cX10_nearestOn, 4, some .int, { frames := 3, cells := 0, slots := 0, locals := 70 }),
  (yX10_toMiddle, cX10_toMiddle, 5, none, { frames := 2, cells := 0, slots := 0, locals := 49 }),
  (yX10_isElsewhere, cX10_isElsewhere, 4, some .boolean, { frames := 1, cells := 0, slots := 0, locals := 21 }),
  (yX10_round, cX10_round, 3, none, { frames := 6, cells := 0, slots := 0, locals := 136 }),
  (yX10_notes, cX10_notes, 3, none, { frames := 0, cells := 0, slots := 0, locals := 0 }),
  (yX10_rounds, cX10_rounds, 4, some .int, { frames := 7, cells := 0, slots := 0, locals := 158 }),
  (yX10_steps, cX10_steps, 3, some .int, { frames := 1, cells := 0, slots := 0, locals := 25 }),
  (yX10_puts, cX10_puts, 2, none, { frames := 0, cells := 0, slots := 0, locals := 0 }),
  (yX10_takesBack, cX10_takesBack, 2, none, { frames := 0, cells := 0, slots := 0, locals := 0 }),
  (yX10_moves, cX10_moves, 1, some .int, { frames := 7, cells := 0, slots := 0, locals := 158 }),
  (yX10_till, cX10_till, 4, some .int, { frames := 7, cells := 0, slots := 0, locals := 158 }),
  (yX10_apart, cX10_apart, 20, some .int, { frames := 0, cells := 0, slots := 0, locals := 0 }),
  (yX10_step, cX10_step, 3, some .int, { frames := 7, cells := 0, slots := 0, locals := 158 }),
  (yX10_adapt, cX10_adapt, 7, some .int, { frames := 6, cells := 0, slots := 0, locals := 136 }),
  (yX10_spotOf, cX10_spotOf, 4, some .int, { frames := 2, cells := 0, slots := 0, locals := 47 }),
  (yX10_areBeside, cX10_areBeside, 5, some .boolean, { frames := 1, cells := 0, slots := 0, locals := 20 }),
  (yX10_meets, cX10_meets, 5, none, { frames := 2, cells := 0, slots := 0, locals := 44 }),
  (yX10_piecesOf, cX10_piecesOf, 4, some .int, { frames := 3, cells := 0, slots := 0, locals := 68 }),
  (yX10_costOf, cX10_costOf, 5, some .int, { frames := 3, cells := 0, slots := 0, locals := 69 })]
def mtI_5 : List (Nat × Nat × Nat × Nat × Nat × Nat) := [(0, 0, 13005, 7011, 13004, 4014), (0, 2, 12216, 7011, 12215, 4007), (0, 2, 12232, 7011, 12231, 4011), (0, 1, 12212, 7011, 12211, 4006), (0, 0, 12208, 7011, 12207, 4005), (0, 0, 13001, 7011, 13000, 4013), (0, 3, 12138, 7011, 12137, 3011), (0, 0, 13169, 7011, 13168, 6002), (0, 2, 12108, 7011, 12107, 3007), (0, 2, 12080, 7011, 12078, 12079), (0, 1, 12130, 7011, 12129, 3010), (0, 1, 12122, 7011, 12120, 12121), (0, 3, 12134, 7011, 12132, 12133), (0, 1, 12167, 7011, 12166, 4001), (0, 1, 12178, 7011, 12177, 4003), (0, 0, 12174, 7011, 12173, 4002), (0, 1, 12154, 7011, 12152, 12153), (0, 1, 12186, 7011, 12184, 12185), (0, 3, 12190, 7011, 12188, 12189), (0, 0, 12199, 7011, 12197, 12198), (0, 1, 13013, 7011, 13012, 5000), (0, 1, 13017, 7011, 13016, 5001), (0, 1, 13009, 7011, 13008, 4015), (0, 3, 13021, 7011, 13020, 5002), (0, 0, 12237, 7011, 12236, 4012), (0, 1, 13025, 7011, 13024, 5003), (0, 1, 12203, 7011, 12201, 12202), (0, 2, 13029, 7011, 13027, 13028), (0, 0, 13037, 7011, 13036, 5004), (0, 0, 13041, 7011, 13040, 5005), (0, 0, 13033, 7011, 13031, 13032), (0, 1, 13045, 7011, 13043, 13044), (1, 6, 13052, 7011, 13051, 0), (0, 1, 13049, 7011, 13047, 13048), (0, 2, 13056, 7011, 13054, 13055), (0, 1, 13069, 7011, 13068, 5007), (0, 2, 13081, 7011, 13080, 5010), (0, 1, 13077, 7011, 13076, 5009), (0, 1, 13073, 7011, 13072, 5008), (0, 1, 13065, 7011, 13064, 5006)]
def mtl_6 : List MD := [
  (yX10_dot, cX10_dot, 5, some .int, { frames := 6, cells := 0, slots := 0, locals := 136 }),
  (yX10_spotsAt, cX10_spotsAt, 4, some .int, { frames := 3, cells := 0, slots := 0, locals := 70 }),
  (yX10_cell, cX10_cell, 5, some .int, { frames := 4, cells := 0, slots := 0, locals := 94 }),
  (yX10_near, cX10_near, 8, some .int, { frames := 3, cells := 0, slots := 0, locals := 70 }),
  (yX10_far, cX10_far, 7, some .int, { frames := 2, cells := 0, slots := 0, locals := 47 }),
  (yX10_around, cX10_around, 6, some .int, { frames := 2, cells := 0, slots := 0, locals := 47 }),
  (yX10_ring, cX10_ring, 4, some .int, { frames := 4, cells := 0, slots := 0, locals := 94 }),
  (yX10_closest, cX10_closest, 8, some .int, { frames := 1, cells := 0, slots := 0, locals := 39 }),
  (yX10_loads, cX10_loads, 6, some .int, { frames := 6, cells := 0, slots := 0, locals := 136 }),
  (yX10_touches, cX10_touches, 7, some .int, { frames := 2, cells := 0, slots := 0, locals := 44 }),
  (yX10_touch, cX10_touch, 3, some .int, { frames := 5, cells := 0, slots := 0, locals := 115 }),
  (yX10_way, cX10_way, 6, some .int, { frames := 5, cells := 0, slots := 0, locals := 115 }),
  (yX10_ownersOf, cX10_ownersOf, 6, some .int, { frames := 2, cells := 0, slots := 0, locals := 40 }),
  (yX10_shade, cX10_shade, 5, some .int, { frames := 5, cells := 0, slots := 0, locals := 115 }),
  (yX10_isWithin, cX10_isWithin, 6, some .boolean, { frames := 1, cells := 0, slots := 0, locals := 25 }),
  (yX10_weightsIn, cX10_weightsIn, 7, some .int, { frames := 2, cells := 0, slots := 0, locals := 50 }),
  (yX10_laysSpots, cX10_laysSpots, 2, none, { frames := 3, cells := 0, slots := 0, locals := 70 }),
  (yX10_dotsIn, cX10_dotsIn, 7, some .int, { frames := 2, cells := 0, slots := 0, locals := 50 }),
  (yX10_tone, cX10_tone, 6, some .int, { frames := 4, cells := 0, slots := 0, locals := 91 }),
  (yX10_uneven, cX10_uneven, 9, some .int, { frames := 4, cells := 0, slots := 0, locals := 91 }),
  (yX10_lossOf, cX10_lossOf, 2, some .int, { frames := 5, cells := 0, slots := 0, locals := 118 }),
  (yX10_loss, cX10_loss, 2, some .int, { frames := 6, cells := 0, slots := 0, locals := 139 }),
  (yX10_idle, cX10_idle, 5, some .int, { frames := 6, cells := 0, slots := 0, locals := 139 }),
  (yX10_costWith, cX10_costWith, 11, some .long, { frames := 3, cells := 0, slots := 0, locals := 69 }),
  (yX10_more, cX10_more, 8, some .int, { frames := 5, cells := 0, slots := 0, locals := 115 }),
  (yX10_costMoved, cX10_costMoved, 12, some .long, { frames := 3, cells := 0, slots := 0, locals := 69 }),
  (yX10_best, cX10_best, 9, some .int, { frames := 4, cells := 0, slots := 0, locals := 100 }),
  (yX10_ties, cX10_ties, 7, some .int, { frames := 4, cells := 0, slots := 0, locals := 94 }),
  (yX10_farthestOf, cX10_farthestOf, 4, some .int, { frames := 2, cells := 0, slots := 0, locals := 47 }),
  (yX10_outside, cX10_outside, 5, some .int, { frames := 2, cells := 0, slots := 0, locals := 40 }),
  (yX10_edge, cX10_edge, 5, some .int, { frames := 5, cells := 0, slots := 0, locals := 115 }),
  (yX10_due, cX10_due, 7, some .int, { frames := 3, cells := 0, slots := 0, locals := 62 }),
  (yX10_isBox, cX10_isBox, 2, some .boolean, { frames := 1, cells := 0, slots := 0, locals := 25 }),
  (yX10_image, cX10_image, 3, some .int, { frames := 2, cells := 0, slots := 0, locals := 46 }),
  (yX10_back, cX10_back, 3, some .int, { frames := 2, cells := 0, slots := 0, locals := 46 }),
  (yX10_otherOwners, cX10_otherOwners, 4, some .int, { frames := 5, cells := 0, slots := 0, locals := 115 }),
  (yX10_against, cX10_against, 6, some .int, { frames := 6, cells := 0, slots := 0, locals := 138 }),
  (yX10_emptyOnes, cX10_emptyOnes, 3, some .int, { frames := 6, cells := 0, slots := 0, locals := 136 }),
  (yX10_about, cX10_about, 2, some .int, { frames := 7, cells := 0, slots := 0, locals := 158 }),
  (yL_law, code, 4, some .boolean, { frames := 11, cells := 600000, slots := 7302250, locals := 382 })]
def mtI_6 : List (Nat × Nat × Nat × Nat × Nat × Nat) := [(0, 2, 13061, 7011, 13059, 13060), (0, 1, 13089, 7011, 13088, 5011), (0, 3, 13085, 7011, 13083, 13084), (0, 3, 13093, 7011, 13091, 13092), (0, 4, 13097, 7011, 13095, 13096), (0, 3, 13101, 7011, 13099, 13100), (0, 2, 13106, 7011, 13104, 13105), (0, 1, 13113, 7011, 13111, 13112), (0, 1, 13118, 7011, 13116, 13117), (0, 2, 13127, 7011, 13126, 5012), (0, 2, 13123, 7011, 13121, 13122), (0, 2, 13131, 7011, 13129, 13130), (0, 1, 13139, 7011, 13138, 5013), (0, 2, 13135, 7011, 13133, 13134), (0, 5, 13155, 7011, 13154, 6000), (0, 4, 13151, 7011, 13150, 5015), (0, 0, 13147, 7011, 13146, 5014), (0, 4, 13159, 7011, 13158, 6001), (0, 5, 13143, 7011, 13141, 13142), (0, 2, 13163, 7011, 13161, 13162), (0, 1, 13177, 7011, 13176, 6003), (0, 1, 13173, 7011, 13171, 13172), (0, 0, 13181, 7011, 13179, 13180), (0, 1, 13189, 7011, 13188, 6004), (0, 1, 13185, 7011, 13183, 13184), (0, 2, 13197, 7011, 13196, 6005), (0, 2, 13193, 7011, 13191, 13192), (0, 2, 13201, 7011, 13199, 13200), (0, 1, 13209, 7011, 13208, 6006), (0, 1, 13213, 7011, 13212, 6007), (0, 2, 13205, 7011, 13203, 13204), (0, 1, 13217, 7011, 13215, 13216), (0, 1, 13225, 7011, 13224, 6008), (0, 1, 13221, 7011, 13219, 13220), (0, 1, 13229, 7011, 13227, 13228), (0, 1, 13237, 7011, 13236, 6009), (0, 2, 13233, 7011, 13231, 13232), (0, 0, 14005, 7011, 14004, 6010), (0, 1, 14001, 7011, 13239, 14000), (9, 0, 0, 0, 0, 0)]
def mtl_7 : List MD := [
  (yJ9_floorMod_7cf53, cJ9_floorMod_7cf53, 3, some .int, { frames := 0, cells := 0, slots := 0, locals := 0 }),
  (yJ9_abs_0f7a4, cJ9_abs_0f7a4, 1, some .int, { frames := 0, cells := 0, slots := 0, locals := 0 }),
  (yJ9_max_7cf53, cJ9_max_7cf53, 2, some .int, { frames := 0, cells := 0, slots := 0, locals := 0 }),
  (yJ9_min_7cf53, cJ9_min_7cf53, 2, some .int, { frames := 0, cells := 0, slots := 0, locals := 0 }),
  (yJ0_length_8abf5, cJ0_length_8abf5, 1, some .int, { frames := 1, cells := 0, slots := 0, locals := 20 }),
  (yJ0_charAt_5068e, cJ0_charAt_5068e, 2, some .char, { frames := 3, cells := 0, slots := 0, locals := 64 }),
  (yJ0_coder_7d493, cJ0_coder_7d493, 1, some .byte, { frames := 0, cells := 0, slots := 0, locals := 0 }),
  (yJ0_isLatin1_aae02, cJ0_isLatin1_aae02, 1, some .boolean, { frames := 0, cells := 0, slots := 0, locals := 0 }),
  (yJ0_checkIndex_df160, cJ0_checkIndex_df160, 2, none, { frames := 1, cells := 0, slots := 0, locals := 22 }),
  (yJ1_charAt_3b067, cJ1_charAt_3b067, 2, some .char, { frames := 2, cells := 0, slots := 0, locals := 43 }),
  (yJ7_fill_d0a16, cJ7_fill_d0a16, 5, none, { frames := 0, cells := 0, slots := 0, locals := 0 }),
  (yJ7_fill_53178, cJ7_fill_53178, 4, none, { frames := 0, cells := 0, slots := 0, locals := 0 }),
  (yJ3_checkIndex_8e157, cJ3_checkIndex_8e157, 3, some .int, { frames := 0, cells := 0, slots := 0, locals := 0 })]
def mtI_7 : List (Nat × Nat × Nat × Nat × Nat × Nat) := [(1, 2, 11024, 7018, 11023, 0), (1, 1, 10094, 7018, 10093, 0), (1, 2, 10097, 7018, 10096, 0), (1, 2, 9212, 7018, 9211, 0), (0, 0, 8174, 7013, 8172, 8173), (0, 1, 8184, 7013, 8182, 8183), (0, 0, 8178, 7013, 8176, 8177), (0, 0, 8188, 7013, 8186, 8187), (1, 2, 8194, 7013, 8193, 0), (1, 2, 8191, 7014, 8190, 0), (1, 2, 9177, 7012, 9176, 0), (1, 2, 8154, 7012, 8153, 0), (1, 3, 8199, 7015, 8198, 0)]
def mtl : List MD := mtl_0 ++ (mtl_1 ++ (mtl_2 ++ (mtl_3 ++ (mtl_4 ++ (mtl_5 ++ (mtl_6 ++ (mtl_7)))))))
def mtI : List (Nat × Nat × Nat × Nat × Nat × Nat) := mtI_0 ++ (mtI_1 ++ (mtI_2 ++ (mtI_3 ++ (mtI_4 ++ (mtI_5 ++ (mtI_6 ++ (mtI_7)))))))
def dMD : MD := (yX7_size, cX7_size, 1, some .int, { frames := 0, cells := 0, slots := 0, locals := 0 })
def mt (a : Nat) : MD := (mtl[a]?).getD dMD
def mtK (a : Nat) : Nat × Nat × Nat × Nat × Nat × Nat := (mtI[a]?).getD (9, 0, 0, 0, 0, 0)
def lw_tabs : List (List Cond) := [k2_sels lw_privs_1, k2_sels lw_privs_2, k2_sels lw_privs_3, k2_sels lw_privs_4, k2_sels lw_privs_5, k2_sels lw_privs_6, k2_sels lw_privs_7, tables_1_1, tables_1_2, tables_1_3, tables_1_4, tables_1_5, tables_1_6, tables_1_7, tables_1_8]
theorem lw_tabs_in {L : List Cond} (h : L ∈ lw_tabs) {w : Cond} (hw : w ∈ L) : w ∈ lw_tbl := by
  simp only [lw_tabs, List.mem_cons, List.not_mem_nil, or_false] at h
  simp only [lw_tbl, lw_privs, k2_sels, tables_1, List.map_append, List.mem_append]
  rcases h with rfl | rfl | rfl | rfl | rfl | rfl | rfl | rfl | rfl | rfl | rfl | rfl | rfl | rfl | rfl <;> (try simp only [k2_sels] at hw) <;> simp only [hw, true_or, or_true]
def wIn (i : Nat) (w : Cond) : Bool := match lw_tabs[i / 1000]? with
  | some L => decide (L[i % 1000]? = some w)
  | none => false
def wIs (i : Nat) (w : Cond) : Bool := wIn i w && goodWord w
theorem wIn.mem {i : Nat} {w : Cond} (h : wIn i w = true) : w ∈ lw_tbl := by
  unfold wIn at h
  cases hL : lw_tabs[i / 1000]? with
  | none => simp [hL] at h
  | some L =>
    simp only [hL, decide_eq_true_eq] at h
    exact lw_tabs_in (List.mem_of_getElem? hL) (List.mem_of_getElem? h)
theorem wIs.mem {i : Nat} {w : Cond} (h : wIs i w = true) : w ∈ lw_ok := by
  simp only [wIs, Bool.and_eq_true] at h
  exact lw_ok_in (wIn.mem h.1) h.2
def mOK (N : MD) (q : Nat × Nat × Nat × Nat × Nat × Nat) : Bool := wIs q.2.2.1 (.code (mdN N) (mdB N) (mdL N) (mdT N)) && (wIs q.2.2.2.1 (.initialized (mdN N).cls) && (decide ((mdN N).cls ≠ "java/lang/invoke/MethodHandle") && (decide ((mdN N).cls ≠ "java/lang/invoke/VarHandle") && (decide ((parseMethodDescriptor (mdN N).desc).map (fun d => d.parameters.length) = some q.2.1) && (plainFor (mdN N) && (
  if q.1 = 0 then wIs q.2.2.2.2.1 (.instanceMethod (mdN N)) && wIs q.2.2.2.2.2 (.selects (mdN N).cls (mdN N) (mdN N)) else if q.1 = 1 then wIs q.2.2.2.2.1 (.static (mdN N)) else (wIs q.2.2.2.2.1 (.instanceMethod (mdN N)) && (decide ((mdN N).name = "<init>") && decide (mdT N = none))) ))))))
end
section
/-! ===== the methods' words, by program ===== -/
theorem mtok_0 : ((List.range 8).map (· + 0)).all (fun a => mtK a == (9, 0, 0, 0, 0, 0) || mOK (mt a) (mtK a)) = true := by decide +kernel
theorem mtok_8 : ((List.range 8).map (· + 8)).all (fun a => mtK a == (9, 0, 0, 0, 0, 0) || mOK (mt a) (mtK a)) = true := by decide +kernel
theorem mtok_16 : ((List.range 8).map (· + 16)).all (fun a => mtK a == (9, 0, 0, 0, 0, 0) || mOK (mt a) (mtK a)) = true := by decide +kernel
theorem mtok_24 : ((List.range 8).map (· + 24)).all (fun a => mtK a == (9, 0, 0, 0, 0, 0) || mOK (mt a) (mtK a)) = true := by decide +kernel
theorem mtok_32 : ((List.range 8).map (· + 32)).all (fun a => mtK a == (9, 0, 0, 0, 0, 0) || mOK (mt a) (mtK a)) = true := by decide +kernel
theorem mtok_40 : ((List.range 8).map (· + 40)).all (fun a => mtK a == (9, 0, 0, 0, 0, 0) || mOK (mt a) (mtK a)) = true := by decide +kernel
theorem mtok_48 : ((List.range 8).map (· + 48)).all (fun a => mtK a == (9, 0, 0, 0, 0, 0) || mOK (mt a) (mtK a)) = true := by decide +kernel
theorem mtok_56 : ((List.range 8).map (· + 56)).all (fun a => mtK a == (9, 0, 0, 0, 0, 0) || mOK (mt a) (mtK a)) = true := by decide +kernel
theorem mtok_64 : ((List.range 8).map (· + 64)).all (fun a => mtK a == (9, 0, 0, 0, 0, 0) || mOK (mt a) (mtK a)) = true := by decide +kernel
theorem mtok_72 : ((List.range 8).map (· + 72)).all (fun a => mtK a == (9, 0, 0, 0, 0, 0) || mOK (mt a) (mtK a)) = true := by decide +kernel
theorem mtok_80 : ((List.range 8).map (· + 80)).all (fun a => mtK a == (9, 0, 0, 0, 0, 0) || mOK (mt a) (mtK a)) = true := by decide +kernel
theorem mtok_88 : ((List.range 8).map (· + 88)).all (fun a => mtK a == (9, 0, 0, 0, 0, 0) || mOK (mt a) (mtK a)) = true := by decide +kernel
theorem mtok_96 : ((List.range 8).map (· + 96)).all (fun a => mtK a == (9, 0, 0, 0, 0, 0) || mOK (mt a) (mtK a)) = true := by decide +kernel
theorem mtok_104 : ((List.range 8).map (· + 104)).all (fun a => mtK a == (9, 0, 0, 0, 0, 0) || mOK (mt a) (mtK a)) = true := by decide +kernel
theorem mtok_112 : ((List.range 8).map (· + 112)).all (fun a => mtK a == (9, 0, 0, 0, 0, 0) || mOK (mt a) (mtK a)) = true := by decide +kernel
theorem mtok_120 : ((List.range 8).map (· + 120)).all (fun a => mtK a == (9, 0, 0, 0, 0, 0) || mOK (mt a) (mtK a)) = true := by decide +kernel
theorem mtok_128 : ((List.range 8).map (· + 128)).all (fun a => mtK a == (9, 0, 0, 0, 0, 0) || mOK (mt a) (mtK a)) = true := by decide +kernel
theorem mtok_136 : ((List.range 8).map (· + 136)).all (fun a => mtK a == (9, 0, 0, 0, 0, 0) || mOK (mt a) (mtK a)) = true := by decide +kernel
theorem mtok_144 : ((List.range 8).map (· + 144)).all (fun a => mtK a == (9, 0, 0, 0, 0, 0) || mOK (mt a) (mtK a)) = true := by decide +kernel
theorem mtok_152 : ((List.range 8).map (· + 152)).all (fun a => mtK a == (9, 0, 0, 0, 0, 0) || mOK (mt a) (mtK a)) = true := by decide +kernel
theorem mtok_160 : ((List.range 8).map (· + 160)).all (fun a => mtK a == (9, 0, 0, 0, 0, 0) || mOK (mt a) (mtK a)) = true := by decide +kernel
theorem mtok_168 : ((List.range 8).map (· + 168)).all (fun a => mtK a == (9, 0, 0, 0, 0, 0) || mOK (mt a) (mtK a)) = true := by decide +kernel
theorem mtok_176 : ((List.range 8).map (· + 176)).all (fun a => mtK a == (9, 0, 0, 0, 0, 0) || mOK (mt a) (mtK a)) = true := by decide +kernel
theorem mtok_184 : ((List.range 8).map (· + 184)).all (fun a => mtK a == (9, 0, 0, 0, 0, 0) || mOK (mt a) (mtK a)) = true := by decide +kernel
theorem mtok_192 : ((List.range 8).map (· + 192)).all (fun a => mtK a == (9, 0, 0, 0, 0, 0) || mOK (mt a) (mtK a)) = true := by decide +kernel
theorem mtok_200 : ((List.range 8).map (· + 200)).all (fun a => mtK a == (9, 0, 0, 0, 0, 0) || mOK (mt a) (mtK a)) = true := by decide +kernel
theorem mtok_208 : ((List.range 8).map (· + 208)).all (fun a => mtK a == (9, 0, 0, 0, 0, 0) || mOK (mt a) (mtK a)) = true := by decide +kernel
theorem mtok_216 : ((List.range 8).map (· + 216)).all (fun a => mtK a == (9, 0, 0, 0, 0, 0) || mOK (mt a) (mtK a)) = true := by decide +kernel
theorem mtok_224 : ((List.range 8).map (· + 224)).all (fun a => mtK a == (9, 0, 0, 0, 0, 0) || mOK (mt a) (mtK a)) = true := by decide +kernel
theorem mtok_232 : ((List.range 8).map (· + 232)).all (fun a => mtK a == (9, 0, 0, 0, 0, 0) || mOK (mt a) (mtK a)) = true := by decide +kernel
theorem mtok_240 : ((List.range 8).map (· + 240)).all (fun a => mtK a == (9, 0, 0, 0, 0, 0) || mOK (mt a) (mtK a)) = true := by decide +kernel
theorem mtok_248 : ((List.range 8).map (· + 248)).all (fun a => mtK a == (9, 0, 0, 0, 0, 0) || mOK (mt a) (mtK a)) = true := by decide +kernel
theorem mtok_256 : ((List.range 8).map (· + 256)).all (fun a => mtK a == (9, 0, 0, 0, 0, 0) || mOK (mt a) (mtK a)) = true := by decide +kernel
theorem mtok_264 : ((List.range 8).map (· + 264)).all (fun a => mtK a == (9, 0, 0, 0, 0, 0) || mOK (mt a) (mtK a)) = true := by decide +kernel
theorem mtok_272 : ((List.range 8).map (· + 272)).all (fun a => mtK a == (9, 0, 0, 0, 0, 0) || mOK (mt a) (mtK a)) = true := by decide +kernel
theorem mtok_280 : ((List.range 8).map (· + 280)).all (fun a => mtK a == (9, 0, 0, 0, 0, 0) || mOK (mt a) (mtK a)) = true := by decide +kernel
theorem mtok_288 : ((List.range 5).map (· + 288)).all (fun a => mtK a == (9, 0, 0, 0, 0, 0) || mOK (mt a) (mtK a)) = true := by decide +kernel
end
section
/-! ===== links by number ===== -/
/-- a type of references -/
def rfT (d : String) : Bool := match parseFieldDescriptor d with
  | some (.object _) => true
  | some (.array _) => true
  | _ => false
def cnm (o : Nat) : String := (["SettledDots", "SettledDots$Scene", "SettledDots$Field", "SettledDots$Links", "SettledDots$Past", "SettledDots$Prices", "SettledDots$Reader", "SettledDots$Track", "SettledDots$Ahead", "SettledDots$Box", "SettledDotsModel", "SettledDotsLaw", "java/lang/Math", "java/lang/String", "java/lang/StringLatin1", "java/util/Arrays", "jdk/internal/util/Preconditions"] : List String).getD o ""
def mcl : List Nat := [0, 0, 0, 0, 0, 0, 0, 0, 0, 0, 0, 0, 0, 0, 0, 0, 0, 0, 0, 0, 0, 0, 0, 0, 0, 0, 0, 0, 0, 0, 0, 0, 0, 0, 0, 0, 0, 0, 0, 0, 0, 0, 0, 0, 0, 0, 0, 0, 0, 0, 0, 0, 0, 0, 0, 0, 0, 0, 0, 0, 1, 1, 1, 1, 1, 1, 1, 1, 1, 1, 1, 1, 1, 1, 1, 1, 1, 1, 1, 1, 1, 1, 1, 1, 1, 1, 1, 1, 1, 1, 1, 1, 1, 2, 2, 2, 2, 2, 2, 2, 2, 2, 2, 2, 3, 3, 3, 3, 3, 3, 3, 3, 3, 4, 4, 4, 4, 4, 4, 4, 5, 5, 5, 5, 5, 5, 6, 6, 6, 6, 6, 6, 6, 6, 6, 6, 6, 6, 6, 6, 6, 6, 6, 6, 7, 7, 7, 7, 7, 8, 8, 8, 8, 9, 9, 9, 9, 9, 10, 10, 10, 10, 10, 10, 10, 10, 10, 10, 10, 10, 10, 10, 10, 10, 10, 10, 10, 10, 10, 10, 10, 10, 10, 10, 10, 10, 10, 10, 10, 10, 10, 10, 10, 10, 10, 10, 10, 10, 10, 10, 10, 10, 10, 10, 10, 10, 10, 10, 10, 10, 10, 10, 10, 10, 10, 10, 10, 10, 10, 10, 10, 10, 10, 10, 10, 10, 10, 10, 10, 10, 10, 10, 10, 10, 10, 10, 10, 10, 10, 10, 10, 10, 10, 10, 10, 10, 10, 10, 10, 10, 10, 10, 10, 10, 10, 10, 10, 10, 10, 10, 10, 10, 10, 10, 10, 10, 10, 10, 10, 10, 10, 10, 10, 10, 10, 10, 10, 10, 10, 11, 12, 12, 12, 12, 13, 13, 13, 13, 13, 14, 15, 15, 16]
def mcn (m : Nat) : Nat := mcl.getD m 99
/-- own class, place in its pool, class, slot, kind, place of the word, final -/
def flt : List (Nat × Nat × Nat × Nat × Nat × Nat × Nat) := [(0, 10, 9, 0, 2, 8084, 0), (0, 19, 9, 1, 2, 8085, 1), (0, 23, 9, 2, 3, 8086, 0), (0, 30, 9, 3, 2, 8087, 1), (0, 37, 9, 4, 2, 8088, 1), (0, 44, 9, 5, 2, 8089, 1), (0, 51, 9, 6, 2, 8090, 1), (0, 58, 9, 7, 2, 8091, 1), (0, 65, 9, 8, 2, 8092, 1), (0, 71, 9, 9, 2, 8093, 1), (0, 75, 9, 10, 2, 8094, 1), (0, 79, 9, 11, 2, 8095, 1), (0, 83, 9, 12, 2, 8096, 1), (0, 95, 6, 0, 0, 7146, 0), (0, 106, 1, 0, 3, 8073, 0), (0, 112, 7, 2, 0, 7048, 0), (0, 115, 6, 1, 0, 7148, 0), (0, 118, 6, 2, 0, 7150, 0), (0, 158, 7, 3, 0, 7052, 0), (0, 165, 7, 4, 2, 7058, 1), (0, 168, 7, 0, 0, 7038, 0), (0, 181, 2, 9, 0, 7114, 0), (0, 197, 2, 5, 2, 7107, 1), (0, 211, 4, 2, 0, 7188, 0), (0, 223, 4, 3, 0, 7190, 0), (0, 229, 7, 5, 2, 7061, 1), (0, 232, 7, 6, 2, 7064, 1), (0, 235, 7, 7, 2, 7067, 1), (0, 238, 2, 4, 2, 7105, 1), (0, 241, 2, 6, 2, 7109, 1), (0, 254, 2, 0, 2, 7096, 1), (0, 257, 2, 3, 2, 7103, 1), (0, 303, 2, 2, 2, 7100, 1), (0, 306, 2, 1, 2, 7098, 1), (0, 319, 5, 1, 0, 8027, 0), (0, 322, 5, 2, 0, 8029, 0), (0, 360, 0, 0, 2, 7231, 1), (0, 363, 0, 1, 0, 7233, 0), (0, 369, 0, 2, 0, 7235, 0), (0, 372, 0, 3, 0, 7237, 0), (0, 375, 8, 3, 0, 7210, 0), (0, 389, 7, 1, 0, 7044, 0), (0, 396, 1, 1, 2, 8075, 1), (1, 9, 7, 0, 0, 7033, 0), (1, 15, 7, 1, 0, 7039, 0), (1, 18, 7, 2, 0, 7045, 0), (1, 21, 7, 3, 0, 7051, 0), (1, 24, 7, 4, 2, 7053, 1), (1, 28, 7, 5, 2, 7059, 1), (1, 31, 7, 6, 2, 7062, 1), (1, 34, 7, 7, 2, 7065, 1), (2, 9, 2, 0, 2, 7092, 1), (2, 15, 2, 1, 2, 7097, 1), (2, 19, 2, 2, 2, 7099, 1), (2, 22, 2, 3, 2, 7101, 1), (2, 25, 2, 4, 2, 7104, 1), (2, 28, 2, 5, 2, 7106, 1), (2, 31, 2, 6, 2, 7108, 1), (2, 34, 2, 7, 2, 7110, 1), (2, 37, 2, 8, 2, 7111, 1), (2, 40, 2, 9, 0, 7112, 0), (2, 47, 7, 2, 0, 7046, 0), (2, 84, 7, 7, 2, 7066, 1), (2, 87, 7, 1, 0, 7042, 0), (2, 90, 7, 6, 2, 7063, 1), (2, 93, 7, 5, 2, 7060, 1), (2, 96, 7, 0, 0, 7036, 0), (2, 99, 7, 4, 2, 7055, 1), (3, 9, 3, 0, 2, 8043, 1), (3, 15, 3, 1, 2, 8044, 1), (3, 18, 3, 2, 2, 8045, 1), (3, 21, 3, 3, 2, 8046, 1), (3, 25, 3, 4, 2, 8047, 1), (3, 28, 3, 5, 0, 8048, 0), (3, 38, 7, 1, 0, 7041, 0), (3, 43, 7, 0, 0, 7035, 0), (3, 50, 2, 0, 2, 7095, 1), (4, 11, 4, 0, 2, 7185, 1), (4, 15, 4, 1, 0, 7186, 0), (4, 19, 4, 2, 0, 7187, 0), (4, 22, 4, 3, 0, 7189, 0), (5, 9, 5, 0, 2, 8025, 1), (5, 15, 5, 1, 0, 8026, 0), (5, 19, 5, 2, 0, 8028, 0), (5, 22, 7, 1, 0, 7040, 0), (5, 27, 7, 0, 0, 7034, 0), (5, 30, 2, 0, 2, 7094, 1), (5, 39, 2, 3, 2, 7102, 1), (5, 47, 7, 2, 0, 7047, 0), (5, 78, 7, 4, 2, 7056, 1), (6, 9, 6, 0, 0, 7145, 0), (6, 15, 6, 1, 0, 7147, 0), (6, 18, 6, 2, 0, 7149, 0), (6, 21, 6, 3, 2, 7151, 1), (6, 28, 6, 4, 2, 7152, 0), (6, 32, 6, 5, 0, 7153, 0), (6, 35, 6, 6, 0, 7154, 0), (6, 38, 6, 7, 0, 7155, 0), (6, 41, 6, 8, 0, 7156, 0), (6, 66, 7, 0, 0, 7037, 0), (6, 69, 7, 1, 0, 7043, 0), (6, 93, 7, 4, 2, 7057, 1), (6, 96, 7, 2, 0, 7050, 0), (7, 9, 8, 0, 2, 7206, 1), (7, 13, 8, 1, 2, 7207, 1), (7, 16, 8, 2, 0, 7208, 0), (7, 20, 8, 3, 0, 7209, 0), (8, 12, 0, 0, 2, 7230, 1), (8, 18, 0, 1, 0, 7232, 0), (8, 22, 0, 2, 0, 7234, 0), (8, 25, 0, 3, 0, 7236, 0), (8, 28, 0, 4, 2, 7238, 1), (8, 34, 0, 5, 2, 7239, 1), (8, 38, 0, 6, 3, 8000, 0), (8, 42, 0, 7, 3, 8001, 0), (8, 59, 2, 9, 0, 7113, 0), (9, 9, 1, 0, 3, 8072, 0), (9, 18, 1, 1, 2, 8074, 1), (9, 22, 1, 2, 2, 8076, 1), (9, 30, 2, 0, 2, 7093, 1), (9, 43, 7, 4, 2, 7054, 1), (9, 46, 7, 2, 0, 7049, 0), (10, 7, 10, 0, 2, 11116, 1), (10, 13, 10, 1, 2, 11117, 1), (10, 16, 10, 10, 0, 11126, 0), (10, 20, 10, 12, 0, 11128, 0), (10, 23, 10, 14, 2, 11130, 1), (10, 26, 10, 16, 2, 11132, 1), (10, 29, 10, 19, 2, 11135, 1), (10, 32, 10, 20, 2, 11136, 1), (10, 35, 10, 21, 2, 11137, 1), (10, 38, 10, 22, 2, 11138, 1), (10, 41, 10, 23, 2, 11139, 1), (10, 45, 10, 25, 2, 11141, 1), (10, 48, 10, 26, 2, 11142, 1), (10, 51, 10, 28, 2, 11144, 1), (10, 54, 10, 29, 2, 11145, 1), (10, 57, 10, 30, 2, 11146, 1), (10, 60, 10, 31, 2, 11147, 1), (10, 63, 10, 32, 2, 11148, 1), (10, 66, 10, 33, 2, 11149, 1), (10, 69, 10, 34, 2, 11150, 1), (10, 72, 10, 35, 2, 11151, 1), (10, 75, 10, 36, 2, 11152, 1), (10, 78, 10, 37, 2, 11153, 1), (10, 81, 10, 38, 2, 11154, 1), (10, 84, 10, 39, 2, 11155, 1), (10, 87, 10, 2, 0, 11118, 0), (10, 98, 10, 4, 0, 11120, 0), (10, 101, 10, 3, 0, 11119, 0), (10, 108, 10, 5, 0, 11121, 0), (10, 111, 10, 7, 0, 11123, 0), (10, 114, 10, 13, 1, 11129, 0), (10, 118, 10, 8, 0, 11124, 0), (10, 121, 10, 6, 0, 11122, 0), (10, 131, 10, 9, 0, 11125, 0), (10, 144, 10, 15, 0, 11131, 0), (10, 170, 10, 11, 0, 11127, 0), (10, 173, 10, 17, 0, 11133, 0), (10, 176, 10, 18, 0, 11134, 0), (10, 179, 10, 27, 0, 11143, 0), (10, 308, 10, 24, 0, 11140, 0)]
/-- own class, place in its pool, method, nest mate, place of the word -/
def mlt : List (Nat × Nat × Nat × Nat × Nat) := [(0, 9, 60, 1, 7029), (0, 18, 93, 1, 7088), (0, 29, 126, 1, 7139), (0, 36, 113, 0, 7178), (0, 43, 144, 1, 7202), (0, 50, 149, 1, 7222), (0, 57, 120, 1, 8021), (0, 64, 104, 1, 8039), (0, 86, 153, 1, 8066), (0, 87, 127, 0, 8128), (0, 91, 128, 0, 8132), (0, 99, 130, 0, 8144), (0, 102, 129, 0, 9028), (0, 109, 47, 0, 9032), (0, 121, 66, 0, 9061), (0, 125, 46, 0, 9065), (0, 129, 72, 0, 9084), (0, 133, 67, 0, 9089), (0, 137, 73, 0, 9093), (0, 140, 76, 0, 9101), (0, 144, 74, 0, 9105), (0, 147, 89, 0, 9110), (0, 151, 90, 0, 9122), (0, 155, 91, 0, 9126), (0, 161, 71, 0, 9154), (0, 171, 44, 0, 9162), (0, 175, 115, 0, 9069), (0, 178, 150, 0, 9048), (0, 184, 95, 0, 9194), (0, 188, 146, 0, 9206), (0, 189, 49, 0, 9217), (0, 193, 50, 0, 9221), (0, 200, 69, 0, 9226), (0, 204, 70, 0, 9227), (0, 207, 63, 0, 9232), (0, 214, 116, 0, 10000), (0, 217, 45, 0, 9044), (0, 220, 145, 0, 9040), (0, 226, 117, 0, 10012), (0, 244, 85, 0, 10020), (0, 247, 110, 0, 10035), (0, 251, 68, 0, 10054), (0, 260, 86, 0, 10055), (0, 264, 81, 0, 10063), (0, 268, 78, 0, 10079), (0, 272, 79, 0, 10080), (0, 276, 58, 0, 10081), (0, 282, 281, 0, 10092), (0, 287, 282, 0, 10095), (0, 292, 80, 0, 10103), (0, 296, 51, 0, 10113), (0, 300, 52, 0, 10117), (0, 308, 88, 0, 10131), (0, 312, 121, 0, 10139), (0, 316, 124, 0, 10152), (0, 325, 101, 0, 10165), (0, 329, 105, 0, 10169), (0, 333, 108, 0, 10179), (0, 336, 102, 0, 10187), (0, 339, 107, 0, 10196), (0, 342, 109, 0, 10201), (0, 345, 54, 0, 10209), (0, 348, 55, 0, 10214), (0, 351, 56, 0, 10218), (0, 354, 57, 0, 10226), (0, 357, 151, 0, 10234), (0, 366, 152, 0, 11009), (0, 376, 147, 0, 11018), (0, 379, 148, 0, 11025), (0, 382, 123, 0, 11033), (0, 386, 87, 0, 11050), (0, 393, 48, 0, 11063), (0, 399, 65, 0, 11066), (0, 403, 155, 0, 11070), (0, 407, 156, 0, 11075), (0, 410, 157, 0, 11079), (0, 413, 154, 0, 11091), (0, 415, 62, 0, 11101), (0, 418, 53, 0, 11106), (0, 422, 94, 0, 9166), (0, 425, 114, 0, 9036), (0, 426, 100, 0, 9225), (0, 429, 283, 0, 10122), (0, 432, 64, 0, 10213), (0, 435, 103, 0, 10222), (1, 37, 291, 0, 8152), (1, 49, 74, 0, 9021), (1, 53, 75, 0, 9025), (1, 57, 79, 0, 10071), (1, 61, 58, 1, 10107), (1, 67, 78, 0, 10067), (1, 71, 84, 0, 10028), (1, 74, 82, 0, 10024), (1, 78, 83, 0, 10031), (1, 81, 68, 0, 9118), (1, 84, 64, 0, 9114), (1, 88, 92, 0, 9130), (1, 91, 69, 0, 9137), (1, 94, 70, 0, 9141), (1, 97, 72, 0, 9145), (2, 44, 96, 0, 9170), (2, 52, 97, 0, 9178), (2, 56, 98, 0, 9182), (2, 60, 74, 0, 9198), (2, 64, 100, 0, 9199), (2, 68, 69, 0, 9204), (2, 72, 70, 0, 9205), (2, 75, 291, 0, 9174), (2, 81, 290, 0, 9175), (2, 102, 99, 0, 9186), (2, 106, 59, 1, 9190), (2, 110, 64, 0, 9203), (2, 114, 68, 0, 10191), (3, 32, 291, 0, 10173), (3, 46, 68, 0, 10174), (3, 55, 106, 0, 10175), (3, 59, 107, 0, 10183), (3, 62, 64, 0, 10039), (3, 66, 111, 0, 10040), (3, 70, 112, 0, 10044), (3, 74, 69, 0, 10048), (3, 78, 70, 0, 10049), (4, 25, 60, 1, 7184), (4, 26, 118, 0, 9073), (4, 30, 62, 0, 9077), (4, 34, 119, 0, 10004), (5, 35, 122, 0, 10143), (5, 42, 71, 0, 10146), (5, 50, 78, 0, 10148), (5, 54, 79, 0, 10149), (5, 58, 59, 1, 10150), (5, 62, 283, 0, 10151), (5, 67, 64, 0, 11037), (5, 71, 125, 0, 10156), (5, 75, 68, 0, 10160), (6, 27, 60, 1, 7144), (6, 44, 61, 0, 8148), (6, 47, 141, 0, 8155), (6, 52, 140, 0, 8167), (6, 56, 131, 0, 8219), (6, 59, 132, 0, 9003), (6, 62, 135, 0, 8223), (6, 72, 137, 0, 8239), (6, 77, 133, 0, 9008), (6, 82, 134, 0, 9013), (6, 85, 139, 0, 8231), (6, 89, 138, 0, 8227), (6, 99, 72, 0, 9017), (6, 103, 136, 0, 8235), (6, 107, 284, 0, 8171), (6, 111, 285, 0, 8181), (6, 115, 143, 0, 8159), (6, 119, 142, 0, 8162), (7, 23, 283, 0, 9210), (7, 29, 280, 0, 11022), (8, 11, 60, 1, 7227), (8, 33, 93, 1, 7229), (8, 45, 62, 0, 10238), (8, 49, 94, 0, 10239), (8, 52, 95, 0, 11000), (8, 56, 151, 0, 11013), (9, 17, 60, 1, 8071), (9, 26, 62, 0, 11095), (9, 39, 64, 0, 11074), (9, 50, 77, 0, 11083), (10, 90, 164, 0, 12001), (10, 94, 159, 0, 12009), (10, 104, 166, 0, 12020), (10, 124, 167, 0, 12024), (10, 128, 168, 0, 12027), (10, 134, 170, 0, 12039), (10, 137, 171, 0, 12043), (10, 141, 169, 0, 12016), (10, 147, 173, 0, 12035), (10, 153, 172, 0, 12031), (10, 157, 174, 0, 12047), (10, 162, 175, 0, 12052), (10, 167, 176, 0, 12057), (10, 182, 179, 0, 12101), (10, 185, 181, 0, 12069), (10, 188, 184, 0, 12085), (10, 192, 185, 0, 12089), (10, 195, 187, 0, 12093), (10, 198, 162, 0, 12113), (10, 201, 192, 0, 12116), (10, 204, 196, 0, 12143), (10, 208, 194, 0, 12139), (10, 211, 195, 0, 12147), (10, 214, 197, 0, 12221), (10, 218, 198, 0, 12225), (10, 221, 186, 0, 12156), (10, 224, 201, 0, 12213), (10, 227, 199, 0, 12217), (10, 233, 190, 0, 12160), (10, 236, 202, 0, 12229), (10, 239, 203, 0, 12209), (10, 242, 200, 0, 13002), (10, 245, 193, 0, 12109), (10, 249, 188, 0, 12081), (10, 253, 180, 0, 12097), (10, 256, 208, 0, 12105), (10, 260, 189, 0, 12123), (10, 263, 210, 0, 12127), (10, 266, 206, 0, 12135), (10, 276, 213, 0, 12164), (10, 279, 214, 0, 12175), (10, 284, 160, 0, 12168), (10, 288, 215, 0, 12171), (10, 293, 191, 0, 12192), (10, 296, 221, 0, 13014), (10, 299, 205, 0, 12238), (10, 302, 222, 0, 13006), (10, 305, 220, 0, 13010), (10, 311, 223, 0, 13018), (10, 317, 204, 0, 12205), (10, 320, 224, 0, 12234), (10, 323, 225, 0, 13022), (10, 326, 228, 0, 13034), (10, 329, 229, 0, 13038), (10, 332, 232, 0, 13050), (10, 338, 236, 0, 13078), (10, 341, 237, 0, 13074), (10, 344, 239, 0, 13062), (10, 347, 235, 0, 13066), (10, 350, 238, 0, 13070), (10, 353, 241, 0, 13086), (10, 358, 161, 0, 13107), (10, 365, 249, 0, 13124), (10, 368, 252, 0, 13136), (10, 371, 254, 0, 13152), (10, 375, 256, 0, 13144), (10, 378, 255, 0, 13148), (10, 382, 257, 0, 13156), (10, 388, 207, 0, 13166), (10, 391, 260, 0, 13174), (10, 394, 263, 0, 13186), (10, 397, 265, 0, 13194), (10, 400, 268, 0, 13206), (10, 403, 269, 0, 13210), (10, 406, 272, 0, 13222), (10, 409, 275, 0, 13234), (10, 412, 277, 0, 14002), (11, 9, 0, 0, 7021), (11, 12, 158, 0, 11112), (11, 13, 1, 0, 8124), (11, 17, 163, 0, 11237), (11, 18, 2, 0, 8136), (11, 22, 165, 0, 12005), (11, 23, 3, 0, 8140), (11, 27, 177, 0, 12012), (11, 28, 4, 0, 9053), (11, 31, 178, 0, 12061), (11, 32, 5, 0, 9057), (11, 36, 209, 0, 12077), (11, 37, 6, 0, 9085), (11, 40, 211, 0, 12119), (11, 41, 7, 0, 9097), (11, 45, 212, 0, 12131), (11, 46, 8, 0, 9106), (11, 49, 216, 0, 12151), (11, 50, 9, 0, 9146), (11, 53, 217, 0, 12183), (11, 54, 10, 0, 9150), (11, 58, 218, 0, 12187), (11, 59, 11, 0, 9158), (11, 62, 226, 0, 12200), (11, 63, 12, 0, 9213), (11, 66, 234, 0, 13053), (11, 67, 13, 0, 9228), (11, 70, 219, 0, 12196), (11, 71, 14, 0, 9236), (11, 75, 182, 0, 12065), (11, 76, 15, 0, 10008), (11, 79, 183, 0, 12073), (11, 80, 16, 0, 10016), (11, 83, 240, 0, 13058), (11, 84, 17, 0, 10050), (11, 87, 242, 0, 13082), (11, 88, 18, 0, 10059), (11, 91, 243, 0, 13090), (11, 92, 19, 0, 10075), (11, 96, 244, 0, 13094), (11, 97, 20, 0, 10084), (11, 100, 245, 0, 13098), (11, 101, 21, 0, 10088), (11, 104, 246, 0, 13103), (11, 105, 22, 0, 10098), (11, 108, 247, 0, 13110), (11, 109, 23, 0, 10109), (11, 112, 248, 0, 13115), (11, 113, 24, 0, 10123), (11, 116, 267, 0, 13198), (11, 117, 25, 0, 10127), (11, 120, 271, 0, 13214), (11, 121, 26, 0, 10135), (11, 124, 266, 0, 13190), (11, 125, 27, 0, 10161), (11, 128, 270, 0, 13202), (11, 129, 28, 0, 10192), (11, 132, 250, 0, 13120), (11, 133, 29, 0, 10197), (11, 136, 251, 0, 13128), (11, 137, 30, 0, 10205), (11, 140, 253, 0, 13132), (11, 141, 31, 0, 10230), (11, 144, 233, 0, 13046), (11, 145, 32, 0, 11001), (11, 148, 230, 0, 13030), (11, 149, 33, 0, 11005), (11, 152, 231, 0, 13042), (11, 153, 34, 0, 11014), (11, 156, 227, 0, 13026), (11, 157, 35, 0, 11029), (11, 160, 261, 0, 13170), (11, 161, 36, 0, 11038), (11, 164, 262, 0, 13178), (11, 165, 37, 0, 11042), (11, 168, 264, 0, 13182), (11, 169, 38, 0, 11046), (11, 172, 258, 0, 13140), (11, 173, 39, 0, 11054), (11, 176, 259, 0, 13160), (11, 177, 40, 0, 11059), (11, 180, 276, 0, 13230), (11, 181, 41, 0, 11087), (11, 184, 273, 0, 13218), (11, 185, 42, 0, 11097), (11, 188, 274, 0, 13226), (11, 189, 43, 0, 11102), (11, 192, 278, 0, 13238)]
def clt : List (Nat × Nat × Int32 × Nat) := [(0, 385, 2147483647, 10121), (0, 392, -2147483648, 11058), (5, 46, 2147483647, 10147), (10, 275, 65536, 12182), (10, 387, -2147483648, 13165)]
def dlt : List (Nat × Nat × Nat × Nat) := [(0, 280, 1000, 9193), (0, 290, 2147483647, 10102), (1, 65, 1000, 10108), (1, 101, 1103515245, 9134), (1, 103, 12345, 9135), (1, 105, 2147483647, 9136), (10, 151, 1936292453, 12030), (10, 160, 7499639, 12051), (10, 165, 6582132, 12056), (10, 231, 1000, 12233), (10, 269, 1103515245, 12179), (10, 271, 12345, 12180), (10, 273, 2147483648, 12181), (10, 282, 40, 12155), (10, 291, 9, 12191), (10, 315, 100, 12204), (10, 336, 9999, 13057), (10, 356, 30, 13102), (10, 361, 2, 13114), (10, 363, 3, 13119), (10, 385, 20, 13164)]
def act : List (Nat × Nat × Nat) := [(1, 43, 9081), (9, 33, 11096)]
def flOK (q : Nat × Nat × Nat × Nat × Nat × Nat × Nat) : Bool := match vwCl[q.2.2.1]? with
  | some r => decide (q.2.2.2.1 < r.2.2) && (decide (fk (r.2.1 q.2.2.2.1).2.2.1 = q.2.2.2.2.1) && (wIs q.2.2.2.2.2.1 (.fieldLink (cnm q.1) q.2.1 (r.2.1 q.2.2.2.1).1 (r.2.1 q.2.2.2.1).2.1 (r.2.1 q.2.2.2.1).2.2.1) && (decide ((r.2.1 q.2.2.2.1).2.2.2 = (q.2.2.2.2.2.2 == 1)) && (decide (q.2.2.2.2.1 = 2) == rfT (r.2.1 q.2.2.2.1).2.2.1))))
  | none => false
def mlOK (q : Nat × Nat × Nat × Nat × Nat) : Bool := if q.2.2.2.1 = 0 then wIs q.2.2.2.2 (.methodLink (cnm q.1) q.2.1 (mdN (mt q.2.2.1))) else wIn q.2.2.2.2 (.methodLinkNest (cnm q.1) q.2.1 (mdN (mt q.2.2.1)) "SettledDots")
def clOK (q : Nat × Nat × Int32 × Nat) : Bool := wIs q.2.2.2 (.constant (cnm q.1) q.2.1 q.2.2.1)
def dlOK (q : Nat × Nat × Nat × Nat) : Bool := wIs q.2.2.2 (.constantLong (cnm q.1) q.2.1 (Int64.ofNat q.2.2.1))
def acOK (q : Nat × Nat × Nat) : Bool := wIs q.2.2 (.methodLink (cnm q.1) q.2.1 arraycopyName)
theorem mclok : (List.range 293).all (fun m => decide ((mdN (mt m)).cls = cnm (mcn m))) = true := by decide +kernel
theorem clok : clt.all clOK = true := by decide +kernel
theorem dlok : dlt.all dlOK = true := by decide +kernel
theorem acok : act.all acOK = true := by decide +kernel
theorem flok_0 : ((flt.drop 0).take 30).all flOK = true := by decide +kernel
theorem flok_30 : ((flt.drop 30).take 30).all flOK = true := by decide +kernel
theorem flok_60 : ((flt.drop 60).take 30).all flOK = true := by decide +kernel
theorem flok_90 : ((flt.drop 90).take 30).all flOK = true := by decide +kernel
theorem flok_120 : ((flt.drop 120).take 30).all flOK = true := by decide +kernel
theorem flok_150 : ((flt.drop 150).take 30).all flOK = true := by decide +kernel
theorem mlok_0 : ((mlt.drop 0).take 30).all mlOK = true := by decide +kernel
theorem mlok_30 : ((mlt.drop 30).take 30).all mlOK = true := by decide +kernel
theorem mlok_60 : ((mlt.drop 60).take 30).all mlOK = true := by decide +kernel
theorem mlok_90 : ((mlt.drop 90).take 30).all mlOK = true := by decide +kernel
theorem mlok_120 : ((mlt.drop 120).take 30).all mlOK = true := by decide +kernel
theorem mlok_150 : ((mlt.drop 150).take 30).all mlOK = true := by decide +kernel
theorem mlok_180 : ((mlt.drop 180).take 30).all mlOK = true := by decide +kernel
theorem mlok_210 : ((mlt.drop 210).take 30).all mlOK = true := by decide +kernel
theorem mlok_240 : ((mlt.drop 240).take 30).all mlOK = true := by decide +kernel
theorem mlok_270 : ((mlt.drop 270).take 30).all mlOK = true := by decide +kernel
theorem mlok_300 : ((mlt.drop 300).take 30).all mlOK = true := by decide +kernel
theorem all_cut {α : Type} {l : List α} {f : α → Bool} (n : Nat) (h1 : (l.take n).all f = true) (h2 : (l.drop n).all f = true) : l.all f = true := by
  rw [← List.take_append_drop n l, List.all_append, h1, h2]; rfl
theorem flok : flt.all flOK = true := by
  have h : (flt.drop 0).all flOK = true := (all_cut 30 flok_0 (by rw [List.drop_drop]; exact (all_cut 30 flok_30 (by rw [List.drop_drop]; exact (all_cut 30 flok_60 (by rw [List.drop_drop]; exact (all_cut 30 flok_90 (by rw [List.drop_drop]; exact (all_cut 30 flok_120 (by rw [List.drop_drop]; exact (all_cut 30 flok_150 (by rw [List.drop_drop]; exact (show (flt.drop 180).all flOK = true from by rw [show flt.drop 180 = [] from by decide +kernel]; rfl)))))))))))))
  exact h
theorem mlok : mlt.all mlOK = true := by
  have h : (mlt.drop 0).all mlOK = true := (all_cut 30 mlok_0 (by rw [List.drop_drop]; exact (all_cut 30 mlok_30 (by rw [List.drop_drop]; exact (all_cut 30 mlok_60 (by rw [List.drop_drop]; exact (all_cut 30 mlok_90 (by rw [List.drop_drop]; exact (all_cut 30 mlok_120 (by rw [List.drop_drop]; exact (all_cut 30 mlok_150 (by rw [List.drop_drop]; exact (all_cut 30 mlok_180 (by rw [List.drop_drop]; exact (all_cut 30 mlok_210 (by rw [List.drop_drop]; exact (all_cut 30 mlok_240 (by rw [List.drop_drop]; exact (all_cut 30 mlok_270 (by rw [List.drop_drop]; exact (all_cut 30 mlok_300 (by rw [List.drop_drop]; exact (show (mlt.drop 330).all mlOK = true from by rw [show mlt.drop 330 = [] from by decide +kernel]; rfl)))))))))))))))))))))))
  exact h
end
section
/-! ===== rows of code, held against bytes and tables ===== -/
/-- where, length, instruction, numbers (target, class, method ..), word's place, constant, switch -/
abbrev Row : Type := Nat × Nat × Instr × Nat × Nat × Nat × Nat × Int32 × List (Int32 × Nat)
def rmB (N M : MD) : Bool := Nat.ble ((mdR N).frames + 1) (mdR M).frames && (Nat.ble (8 + (mdL N + 11) + (mdR N).locals) (mdR M).locals && (Nat.beq (mdR N).cells 0 && Nat.beq (mdR N).slots 0))
/-- rooms for what the machine does by itself -/
def rmX (M : MD) : Bool := Nat.ble 1 (mdR M).frames && Nat.ble 26 (mdR M).locals
def rmY (M : MD) : Bool := Nat.ble 1 (mdR M).frames && Nat.ble 21 (mdR M).locals
def tsOK (pc : Nat) : Nat → List Int → List (Int32 × Nat) → Bool
  | _, [], [] => true
  | i, off :: offs, q :: tb => decide (q.1 = nI i) && (decide ((pc : Int) + off = (q.2 : Int)) && tsOK pc (i + 1) offs tb)
  | _, _, _ => false
def lsOK (pc : Nat) : List (Int × Int) → List (Int32 × Nat) → Bool
  | [], [] => true
  | p :: ps, q :: tb => decide (q.1.toInt = p.1) && (decide ((pc : Int) + p.2 = (q.2 : Int)) && lsOK pc ps tb)
  | _, _ => false
/-- a row says what the bytes and the tables say -/
def rowOK (m : Nat) (r : Row) : Bool := match r with
  | (pc, len, ins, a, b, t, pl, v, tb) => (match decode (mdB (mt m)) pc with
    | .ok (i, n) => decide (i = ins) && Nat.beq n len
    | _ => false) && (match ins with
    | .iconst n => decide (Int32.ofInt n = v) && Nat.beq len 1
    | .bipush n => decide ((Int8.ofInt n).toInt32 = v) && Nat.beq len 2
    | .sipush n => decide ((Int16.ofInt n).toInt32 = v) && Nat.beq len 3
    | .lconst n => Nat.beq n.val a && Nat.beq len 1
    | .ldc i => Nat.beq len 2 && (match t with
      | 0 => decide ((clt[pl]?).map (fun q => (q.1, q.2.1, q.2.2.1)) = some (mcn m, i, v))
      | _ => decide (cnm (mcn m) = "SettledDots$Reader") && ((Nat.beq i 50 && Nat.beq b 0) || ((Nat.beq i 75 && Nat.beq b 1) || (Nat.beq i 80 && Nat.beq b 2))))
    | .ldc_w i => Nat.beq len 3 && decide ((clt[pl]?).map (fun q => (q.1, q.2.1, q.2.2.1)) = some (mcn m, i, v))
    | .ldc2_w i => Nat.beq len 3 && decide ((dlt[pl]?).map (fun q => (q.1, q.2.1, q.2.2.1)) = some (mcn m, i, a))
    | .istore i => Nat.blt i (mdL (mt m)) && Nat.beq len 2
    | .istore_n i => Nat.blt i.val (mdL (mt m)) && Nat.beq len 1
    | .astore i => Nat.blt i (mdL (mt m)) && Nat.beq len 2
    | .astore_n i => Nat.blt i.val (mdL (mt m)) && Nat.beq len 1
    | .lstore i => Nat.blt (i + 1) (mdL (mt m)) && Nat.beq len 2
    | .lstore_n i => Nat.blt (i.val + 1) (mdL (mt m)) && Nat.beq len 1
    | .iload _ => Nat.beq len 2
    | .lload _ => Nat.beq len 2
    | .aload _ => Nat.beq len 2
    | .iinc i n => Nat.blt i (mdL (mt m)) && (decide (Int32.ofInt n = v) && Nat.beq len 3)
    | .goto off => decide ((pc : Int) + off = (a : Int)) && Nat.beq len 3
    | .ifCond _ off => decide ((pc : Int) + off = (a : Int)) && Nat.beq len 3
    | .if_icmp _ off => decide ((pc : Int) + off = (a : Int)) && Nat.beq len 3
    | .tableswitch d lo hi offs => decide (lo = 0) && (decide (hi + 1 = (tb.length : Int)) && (decide (tb.length < 1000) && (decide ((pc : Int) + d = (a : Int)) && tsOK pc 0 offs.toList tb)))
    | .lookupswitch d ps => (ps.toList.zip (ps.toList.drop 1)).all (fun (a, next) => a.1 < next.1) && (decide ((pc : Int) + d = (a : Int)) && lsOK pc ps.toList tb)
    | .getfield i => Nat.beq len 3 && decide ((flt[pl]?).map (fun q => (q.1, q.2.1, q.2.2.1, q.2.2.2.1, q.2.2.2.2.1)) = some (mcn m, i, a, b, t))
    | .putfield i => Nat.beq len 3 && decide ((flt[pl]?).map (fun q => (q.1, q.2.1, q.2.2.1, q.2.2.2.1, q.2.2.2.2.1, q.2.2.2.2.2.2)) = some (mcn m, i, a, b, t, 0))
    | .invokevirtual i => Nat.beq len 3 && (decide ((mlt[pl]?).map (fun q => (q.1, q.2.1, q.2.2.1, q.2.2.2.1)) = some (mcn m, i, a, 0)) && (Nat.blt a 293 && (Nat.beq (mtK a).1 0 && (Nat.beq (mtK a).2.1 b && ((match Nat.blt t 50 with
      | true => decide ((vwCl[t]?).map (fun q => q.1) = some (cnm (mcn a)))
      | false => decide (cnm (mcn a) = "java/lang/String")) && rmB (mt a) (mt m))))))
    | .invokestatic i => Nat.beq len 3 && (match t with
      | 2 => decide ((act[pl]?).map (fun q => (q.1, q.2.1)) = some (mcn m, i)) && rmX (mt m)
      | 3 => decide ((mlt[pl]?).map (fun q => (q.1, q.2.1, q.2.2.1, q.2.2.2.1)) = some (mcn m, i, mJm_min, 0)) && rmY (mt m)
      | 4 => decide ((mlt[pl]?).map (fun q => (q.1, q.2.1, q.2.2.1, q.2.2.2.1)) = some (mcn m, i, mJm_max, 0)) && rmY (mt m)
      | 5 => decide ((mlt[pl]?).map (fun q => (q.1, q.2.1, q.2.2.1, q.2.2.2.1)) = some (mcn m, i, mJm_abs, 0)) && rmY (mt m)
      | 1 => decide ((mlt[pl]?).map (fun q => (q.1, q.2.1, q.2.2.1, q.2.2.2.1)) = some (mcn m, i, a, 1)) && (Nat.blt a 293 && (Nat.beq (mtK a).1 1 && (Nat.beq (mtK a).2.1 b && rmB (mt a) (mt m))))
      | 0 => decide ((mlt[pl]?).map (fun q => (q.1, q.2.1, q.2.2.1, q.2.2.2.1)) = some (mcn m, i, a, 0)) && (Nat.blt a 293 && (Nat.beq (mtK a).1 1 && (Nat.beq (mtK a).2.1 b && rmB (mt a) (mt m))))
      | _ => false)
    | .aaload => (Nat.beq t 3 || Nat.beq t 4) && Nat.beq len 1
    | .aastore => ((Nat.beq t 3 && Nat.beq a 7) || (Nat.beq t 4 && Nat.beq a 1)) && Nat.beq len 1
    | .ireturn => (match t with
      | 0 => decide (mdT (mt m) = some .int)
      | _ => decide (mdT (mt m) = some .boolean)) && Nat.beq len 1
    | .lreturn => decide (mdT (mt m) = some .long) && Nat.beq len 1
    | .areturn => (match mdT (mt m) with
      | some (.object _) => true
      | _ => false) && Nat.beq len 1
    | .return_ => decide (mdT (mt m) = none) && Nat.beq len 1
    | _ => Nat.beq len 1)
end
section
/-! ===== code as rows ===== -/
def cdS_clear : List Row := [
  (0, 1, .aload_n 0, 0, 0, 0, 0, 0, []),
  (1, 2, .bipush 8, 0, 0, 0, 0, 8, []),
  (3, 3, .putfield 9, 7, 0, 0, 43, 0, []),
  (6, 1, .aload_n 0, 0, 0, 0, 0, 0, []),
  (7, 2, .bipush 8, 0, 0, 0, 0, 8, []),
  (9, 3, .putfield 15, 7, 1, 0, 44, 0, []),
  (12, 1, .aload_n 0, 0, 0, 0, 0, 0, []),
  (13, 1, .iconst 0, 0, 0, 0, 0, 0, []),
  (14, 3, .putfield 18, 7, 2, 0, 45, 0, []),
  (17, 1, .aload_n 0, 0, 0, 0, 0, 0, []),
  (18, 1, .iconst 0, 0, 0, 0, 0, 0, []),
  (19, 3, .putfield 21, 7, 3, 0, 46, 0, []),
  (22, 1, .aload_n 0, 0, 0, 0, 0, 0, []),
  (23, 3, .getfield 24, 7, 4, 2, 47, 0, []),
  (26, 1, .iconst 0, 0, 0, 0, 0, 0, []),
  (27, 3, .invokestatic 37, mJa_fillI, 2, 0, 85, 0, [(0, 0)]),
  (30, 1, .return_, 0, 0, 0, 0, 0, [])]
theorem ckS_clear : cdS_clear.all (rowOK mS_clear) = true := by decide +kernel
def cdS_copy : List Row := [
  (0, 1, .aload_n 0, 0, 0, 0, 0, 0, []),
  (1, 1, .aload_n 1, 0, 0, 0, 0, 0, []),
  (2, 3, .getfield 9, 7, 0, 0, 43, 0, []),
  (5, 3, .putfield 9, 7, 0, 0, 43, 0, []),
  (8, 1, .aload_n 0, 0, 0, 0, 0, 0, []),
  (9, 1, .aload_n 1, 0, 0, 0, 0, 0, []),
  (10, 3, .getfield 15, 7, 1, 0, 44, 0, []),
  (13, 3, .putfield 15, 7, 1, 0, 44, 0, []),
  (16, 1, .aload_n 0, 0, 0, 0, 0, 0, []),
  (17, 1, .aload_n 1, 0, 0, 0, 0, 0, []),
  (18, 3, .getfield 18, 7, 2, 0, 45, 0, []),
  (21, 3, .putfield 18, 7, 2, 0, 45, 0, []),
  (24, 1, .aload_n 0, 0, 0, 0, 0, 0, []),
  (25, 1, .aload_n 1, 0, 0, 0, 0, 0, []),
  (26, 3, .getfield 21, 7, 3, 0, 46, 0, []),
  (29, 3, .putfield 21, 7, 3, 0, 46, 0, []),
  (32, 1, .aload_n 1, 0, 0, 0, 0, 0, []),
  (33, 3, .getfield 24, 7, 4, 2, 47, 0, []),
  (36, 1, .iconst 0, 0, 0, 0, 0, 0, []),
  (37, 1, .aload_n 0, 0, 0, 0, 0, 0, []),
  (38, 3, .getfield 24, 7, 4, 2, 47, 0, []),
  (41, 1, .iconst 0, 0, 0, 0, 0, 0, []),
  (42, 3, .sipush 400, 0, 0, 0, 0, 400, []),
  (45, 3, .invokestatic 43, 0, 0, 2, 0, 0, []),
  (48, 1, .aload_n 1, 0, 0, 0, 0, 0, []),
  (49, 3, .getfield 28, 7, 5, 2, 48, 0, []),
  (52, 1, .iconst 0, 0, 0, 0, 0, 0, []),
  (53, 1, .aload_n 0, 0, 0, 0, 0, 0, []),
  (54, 3, .getfield 28, 7, 5, 2, 48, 0, []),
  (57, 1, .iconst 0, 0, 0, 0, 0, 0, []),
  (58, 2, .bipush 40, 0, 0, 0, 0, 40, []),
  (60, 3, .invokestatic 43, 0, 0, 2, 0, 0, []),
  (63, 1, .aload_n 1, 0, 0, 0, 0, 0, []),
  (64, 3, .getfield 31, 7, 6, 2, 49, 0, []),
  (67, 1, .iconst 0, 0, 0, 0, 0, 0, []),
  (68, 1, .aload_n 0, 0, 0, 0, 0, 0, []),
  (69, 3, .getfield 31, 7, 6, 2, 49, 0, []),
  (72, 1, .iconst 0, 0, 0, 0, 0, 0, []),
  (73, 2, .bipush 40, 0, 0, 0, 0, 40, []),
  (75, 3, .invokestatic 43, 0, 0, 2, 0, 0, []),
  (78, 1, .aload_n 1, 0, 0, 0, 0, 0, []),
  (79, 3, .getfield 34, 7, 7, 2, 50, 0, []),
  (82, 1, .iconst 0, 0, 0, 0, 0, 0, []),
  (83, 1, .aload_n 0, 0, 0, 0, 0, 0, []),
  (84, 3, .getfield 34, 7, 7, 2, 50, 0, []),
  (87, 1, .iconst 0, 0, 0, 0, 0, 0, []),
  (88, 2, .bipush 40, 0, 0, 0, 0, 40, []),
  (90, 3, .invokestatic 43, 0, 0, 2, 0, 0, []),
  (93, 1, .return_, 0, 0, 0, 0, 0, [])]
theorem ckS_copy : cdS_copy.all (rowOK mS_copy) = true := by decide +kernel
def cdS_becomeQuarterTurnOf : List Row := [
  (0, 1, .aload_n 0, 0, 0, 0, 0, 0, []),
  (1, 1, .aload_n 1, 0, 0, 0, 0, 0, []),
  (2, 3, .getfield 15, 7, 1, 0, 44, 0, []),
  (5, 3, .putfield 9, 7, 0, 0, 43, 0, []),
  (8, 1, .aload_n 0, 0, 0, 0, 0, 0, []),
  (9, 1, .aload_n 1, 0, 0, 0, 0, 0, []),
  (10, 3, .getfield 9, 7, 0, 0, 43, 0, []),
  (13, 3, .putfield 15, 7, 1, 0, 44, 0, []),
  (16, 1, .iconst 0, 0, 0, 0, 0, 0, []),
  (17, 1, .istore_n 2, 0, 0, 0, 0, 0, []),
  (18, 1, .iload_n 2, 0, 0, 0, 0, 0, []),
  (19, 1, .aload_n 1, 0, 0, 0, 0, 0, []),
  (20, 3, .getfield 15, 7, 1, 0, 44, 0, []),
  (23, 3, .if_icmp .ge 58, 81, 0, 0, 0, 0, []),
  (26, 1, .iconst 0, 0, 0, 0, 0, 0, []),
  (27, 1, .istore_n 3, 0, 0, 0, 0, 0, []),
  (28, 1, .iload_n 3, 0, 0, 0, 0, 0, []),
  (29, 1, .aload_n 1, 0, 0, 0, 0, 0, []),
  (30, 3, .getfield 9, 7, 0, 0, 43, 0, []),
  (33, 3, .if_icmp .ge 42, 75, 0, 0, 0, 0, []),
  (36, 1, .aload_n 0, 0, 0, 0, 0, 0, []),
  (37, 3, .getfield 24, 7, 4, 2, 47, 0, []),
  (40, 1, .iload_n 3, 0, 0, 0, 0, 0, []),
  (41, 1, .aload_n 0, 0, 0, 0, 0, 0, []),
  (42, 3, .getfield 9, 7, 0, 0, 43, 0, []),
  (45, 1, .imul, 0, 0, 0, 0, 0, []),
  (46, 1, .aload_n 1, 0, 0, 0, 0, 0, []),
  (47, 3, .getfield 15, 7, 1, 0, 44, 0, []),
  (50, 1, .iadd, 0, 0, 0, 0, 0, []),
  (51, 1, .iconst 1, 0, 0, 0, 0, 1, []),
  (52, 1, .isub, 0, 0, 0, 0, 0, []),
  (53, 1, .iload_n 2, 0, 0, 0, 0, 0, []),
  (54, 1, .isub, 0, 0, 0, 0, 0, []),
  (55, 1, .aload_n 1, 0, 0, 0, 0, 0, []),
  (56, 3, .getfield 24, 7, 4, 2, 47, 0, []),
  (59, 1, .iload_n 2, 0, 0, 0, 0, 0, []),
  (60, 1, .aload_n 1, 0, 0, 0, 0, 0, []),
  (61, 3, .getfield 9, 7, 0, 0, 43, 0, []),
  (64, 1, .imul, 0, 0, 0, 0, 0, []),
  (65, 1, .iload_n 3, 0, 0, 0, 0, 0, []),
  (66, 1, .iadd, 0, 0, 0, 0, 0, []),
  (67, 1, .iaload, 0, 0, 0, 0, 0, []),
  (68, 1, .iastore, 0, 0, 0, 0, 0, []),
  (69, 3, .iinc 3 1, 0, 0, 0, 0, 1, []),
  (72, 3, .goto (-44), 28, 0, 0, 0, 0, []),
  (75, 3, .iinc 2 1, 0, 0, 0, 0, 1, []),
  (78, 3, .goto (-60), 18, 0, 0, 0, 0, []),
  (81, 1, .iconst 0, 0, 0, 0, 0, 0, []),
  (82, 1, .istore_n 2, 0, 0, 0, 0, 0, []),
  (83, 1, .iload_n 2, 0, 0, 0, 0, 0, []),
  (84, 1, .aload_n 0, 0, 0, 0, 0, 0, []),
  (85, 3, .getfield 18, 7, 2, 0, 45, 0, []),
  (88, 3, .if_icmp .ge 47, 135, 0, 0, 0, 0, []),
  (91, 1, .aload_n 0, 0, 0, 0, 0, 0, []),
  (92, 3, .getfield 28, 7, 5, 2, 48, 0, []),
  (95, 1, .iload_n 2, 0, 0, 0, 0, 0, []),
  (96, 1, .aload_n 1, 0, 0, 0, 0, 0, []),
  (97, 3, .getfield 15, 7, 1, 0, 44, 0, []),
  (100, 1, .iconst 1, 0, 0, 0, 0, 1, []),
  (101, 1, .isub, 0, 0, 0, 0, 0, []),
  (102, 1, .aload_n 1, 0, 0, 0, 0, 0, []),
  (103, 3, .getfield 34, 7, 7, 2, 50, 0, []),
  (106, 1, .iload_n 2, 0, 0, 0, 0, 0, []),
  (107, 1, .iaload, 0, 0, 0, 0, 0, []),
  (108, 1, .imul, 0, 0, 0, 0, 0, []),
  (109, 1, .aload_n 1, 0, 0, 0, 0, 0, []),
  (110, 3, .getfield 31, 7, 6, 2, 49, 0, []),
  (113, 1, .iload_n 2, 0, 0, 0, 0, 0, []),
  (114, 1, .iaload, 0, 0, 0, 0, 0, []),
  (115, 1, .isub, 0, 0, 0, 0, 0, []),
  (116, 1, .iastore, 0, 0, 0, 0, 0, []),
  (117, 1, .aload_n 0, 0, 0, 0, 0, 0, []),
  (118, 3, .getfield 31, 7, 6, 2, 49, 0, []),
  (121, 1, .iload_n 2, 0, 0, 0, 0, 0, []),
  (122, 1, .aload_n 1, 0, 0, 0, 0, 0, []),
  (123, 3, .getfield 28, 7, 5, 2, 48, 0, []),
  (126, 1, .iload_n 2, 0, 0, 0, 0, 0, []),
  (127, 1, .iaload, 0, 0, 0, 0, 0, []),
  (128, 1, .iastore, 0, 0, 0, 0, 0, []),
  (129, 3, .iinc 2 1, 0, 0, 0, 0, 1, []),
  (132, 3, .goto (-49), 83, 0, 0, 0, 0, []),
  (135, 1, .return_, 0, 0, 0, 0, 0, [])]
theorem ckS_becomeQuarterTurnOf_0 : ((cdS_becomeQuarterTurnOf.drop 0).take 60).all (rowOK mS_becomeQuarterTurnOf) = true := by decide +kernel
theorem ckS_becomeQuarterTurnOf_60 : ((cdS_becomeQuarterTurnOf.drop 60).take 60).all (rowOK mS_becomeQuarterTurnOf) = true := by decide +kernel
theorem ckS_becomeQuarterTurnOf : cdS_becomeQuarterTurnOf.all (rowOK mS_becomeQuarterTurnOf) = true := by
  have h : (cdS_becomeQuarterTurnOf.drop 0).all (rowOK mS_becomeQuarterTurnOf) = true := (all_cut 60 ckS_becomeQuarterTurnOf_0 (by rw [List.drop_drop]; exact (all_cut 60 ckS_becomeQuarterTurnOf_60 (by rw [List.drop_drop]; exact (by rw [show cdS_becomeQuarterTurnOf.drop 120 = [] from rfl]; rfl)))))
  exact h
def cdS_size : List Row := [
  (0, 1, .aload_n 0, 0, 0, 0, 0, 0, []),
  (1, 3, .getfield 9, 7, 0, 0, 43, 0, []),
  (4, 1, .aload_n 0, 0, 0, 0, 0, 0, []),
  (5, 3, .getfield 15, 7, 1, 0, 44, 0, []),
  (8, 1, .imul, 0, 0, 0, 0, 0, []),
  (9, 1, .ireturn, 0, 0, 0, 0, 0, [])]
theorem ckS_size : cdS_size.all (rowOK mS_size) = true := by decide +kernel
def cdS_isAsLargeAs : List Row := [
  (0, 1, .aload_n 0, 0, 0, 0, 0, 0, []),
  (1, 3, .getfield 9, 7, 0, 0, 43, 0, []),
  (4, 1, .aload_n 1, 0, 0, 0, 0, 0, []),
  (5, 3, .getfield 9, 7, 0, 0, 43, 0, []),
  (8, 3, .if_icmp .ne 18, 26, 0, 0, 0, 0, []),
  (11, 1, .aload_n 0, 0, 0, 0, 0, 0, []),
  (12, 3, .getfield 15, 7, 1, 0, 44, 0, []),
  (15, 1, .aload_n 1, 0, 0, 0, 0, 0, []),
  (16, 3, .getfield 15, 7, 1, 0, 44, 0, []),
  (19, 3, .if_icmp .ne 7, 26, 0, 0, 0, 0, []),
  (22, 1, .iconst 1, 0, 0, 0, 0, 1, []),
  (23, 3, .goto 4, 27, 0, 0, 0, 0, []),
  (26, 1, .iconst 0, 0, 0, 0, 0, 0, []),
  (27, 1, .ireturn, 0, 0, 1, 0, 0, [])]
theorem ckS_isAsLargeAs : cdS_isAsLargeAs.all (rowOK mS_isAsLargeAs) = true := by decide +kernel
def cdS_holds : List Row := [
  (0, 1, .iload_n 1, 0, 0, 0, 0, 0, []),
  (1, 3, .ifCond .lt 27, 28, 0, 0, 0, 0, []),
  (4, 1, .iload_n 1, 0, 0, 0, 0, 0, []),
  (5, 1, .aload_n 0, 0, 0, 0, 0, 0, []),
  (6, 3, .getfield 9, 7, 0, 0, 43, 0, []),
  (9, 3, .if_icmp .ge 19, 28, 0, 0, 0, 0, []),
  (12, 1, .iload_n 2, 0, 0, 0, 0, 0, []),
  (13, 3, .ifCond .lt 15, 28, 0, 0, 0, 0, []),
  (16, 1, .iload_n 2, 0, 0, 0, 0, 0, []),
  (17, 1, .aload_n 0, 0, 0, 0, 0, 0, []),
  (18, 3, .getfield 15, 7, 1, 0, 44, 0, []),
  (21, 3, .if_icmp .ge 7, 28, 0, 0, 0, 0, []),
  (24, 1, .iconst 1, 0, 0, 0, 0, 1, []),
  (25, 3, .goto 4, 29, 0, 0, 0, 0, []),
  (28, 1, .iconst 0, 0, 0, 0, 0, 0, []),
  (29, 1, .ireturn, 0, 0, 1, 0, 0, [])]
theorem ckS_holds : cdS_holds.all (rowOK mS_holds) = true := by decide +kernel
def cdS_has : List Row := [
  (0, 1, .iload_n 1, 0, 0, 0, 0, 0, []),
  (1, 3, .ifCond .lt 15, 16, 0, 0, 0, 0, []),
  (4, 1, .iload_n 1, 0, 0, 0, 0, 0, []),
  (5, 1, .aload_n 0, 0, 0, 0, 0, 0, []),
  (6, 3, .getfield 18, 7, 2, 0, 45, 0, []),
  (9, 3, .if_icmp .ge 7, 16, 0, 0, 0, 0, []),
  (12, 1, .iconst 1, 0, 0, 0, 0, 1, []),
  (13, 3, .goto 4, 17, 0, 0, 0, 0, []),
  (16, 1, .iconst 0, 0, 0, 0, 0, 0, []),
  (17, 1, .ireturn, 0, 0, 1, 0, 0, [])]
theorem ckS_has : cdS_has.all (rowOK mS_has) = true := by decide +kernel
def cdS_numberOf : List Row := [
  (0, 1, .iload_n 2, 0, 0, 0, 0, 0, []),
  (1, 1, .aload_n 0, 0, 0, 0, 0, 0, []),
  (2, 3, .getfield 9, 7, 0, 0, 43, 0, []),
  (5, 1, .imul, 0, 0, 0, 0, 0, []),
  (6, 1, .iload_n 1, 0, 0, 0, 0, 0, []),
  (7, 1, .iadd, 0, 0, 0, 0, 0, []),
  (8, 1, .ireturn, 0, 0, 0, 0, 0, [])]
theorem ckS_numberOf : cdS_numberOf.all (rowOK mS_numberOf) = true := by decide +kernel
def cdS_columnOf : List Row := [
  (0, 1, .aload_n 0, 0, 0, 0, 0, 0, []),
  (1, 3, .getfield 9, 7, 0, 0, 43, 0, []),
  (4, 3, .ifCond .le 12, 16, 0, 0, 0, 0, []),
  (7, 1, .iload_n 1, 0, 0, 0, 0, 0, []),
  (8, 1, .aload_n 0, 0, 0, 0, 0, 0, []),
  (9, 3, .getfield 9, 7, 0, 0, 43, 0, []),
  (12, 1, .irem, 0, 0, 0, 0, 0, []),
  (13, 3, .goto 4, 17, 0, 0, 0, 0, []),
  (16, 1, .iconst 0, 0, 0, 0, 0, 0, []),
  (17, 1, .ireturn, 0, 0, 0, 0, 0, [])]
theorem ckS_columnOf : cdS_columnOf.all (rowOK mS_columnOf) = true := by decide +kernel
def cdS_rowOf : List Row := [
  (0, 1, .aload_n 0, 0, 0, 0, 0, 0, []),
  (1, 3, .getfield 9, 7, 0, 0, 43, 0, []),
  (4, 3, .ifCond .le 12, 16, 0, 0, 0, 0, []),
  (7, 1, .iload_n 1, 0, 0, 0, 0, 0, []),
  (8, 1, .aload_n 0, 0, 0, 0, 0, 0, []),
  (9, 3, .getfield 9, 7, 0, 0, 43, 0, []),
  (12, 1, .idiv, 0, 0, 0, 0, 0, []),
  (13, 3, .goto 4, 17, 0, 0, 0, 0, []),
  (16, 1, .iconst 0, 0, 0, 0, 0, 0, []),
  (17, 1, .ireturn, 0, 0, 0, 0, 0, [])]
theorem ckS_rowOf : cdS_rowOf.all (rowOK mS_rowOf) = true := by decide +kernel
def cdS_weightAt : List Row := [
  (0, 1, .aload_n 0, 0, 0, 0, 0, 0, []),
  (1, 3, .getfield 24, 7, 4, 2, 47, 0, []),
  (4, 1, .iload_n 2, 0, 0, 0, 0, 0, []),
  (5, 1, .aload_n 0, 0, 0, 0, 0, 0, []),
  (6, 3, .getfield 9, 7, 0, 0, 43, 0, []),
  (9, 1, .imul, 0, 0, 0, 0, 0, []),
  (10, 1, .iload_n 1, 0, 0, 0, 0, 0, []),
  (11, 1, .iadd, 0, 0, 0, 0, 0, []),
  (12, 1, .iaload, 0, 0, 0, 0, 0, []),
  (13, 1, .ireturn, 0, 0, 0, 0, 0, [])]
theorem ckS_weightAt : cdS_weightAt.all (rowOK mS_weightAt) = true := by decide +kernel
def cdS_add : List Row := [
  (0, 1, .aload_n 0, 0, 0, 0, 0, 0, []),
  (1, 3, .getfield 18, 7, 2, 0, 45, 0, []),
  (4, 2, .bipush 40, 0, 0, 0, 0, 40, []),
  (6, 3, .if_icmp .ge 27, 33, 0, 0, 0, 0, []),
  (9, 1, .aload_n 0, 0, 0, 0, 0, 0, []),
  (10, 1, .dup, 0, 0, 0, 0, 0, []),
  (11, 3, .getfield 18, 7, 2, 0, 45, 0, []),
  (14, 1, .iconst 1, 0, 0, 0, 0, 1, []),
  (15, 1, .iadd, 0, 0, 0, 0, 0, []),
  (16, 3, .putfield 18, 7, 2, 0, 45, 0, []),
  (19, 1, .aload_n 0, 0, 0, 0, 0, 0, []),
  (20, 1, .aload_n 0, 0, 0, 0, 0, 0, []),
  (21, 3, .getfield 18, 7, 2, 0, 45, 0, []),
  (24, 1, .iconst 1, 0, 0, 0, 0, 1, []),
  (25, 1, .isub, 0, 0, 0, 0, 0, []),
  (26, 1, .iload_n 1, 0, 0, 0, 0, 0, []),
  (27, 1, .iload_n 2, 0, 0, 0, 0, 0, []),
  (28, 1, .iconst 1, 0, 0, 0, 0, 1, []),
  (29, 3, .invokevirtual 49, mS_place, 4, 7, 86, 0, [(0, 1)]),
  (32, 1, .pop, 0, 0, 0, 0, 0, []),
  (33, 1, .return_, 0, 0, 0, 0, 0, [])]
theorem ckS_add : cdS_add.all (rowOK mS_add) = true := by decide +kernel
def cdS_remove : List Row := [
  (0, 1, .iload_n 1, 0, 0, 0, 0, 0, []),
  (1, 1, .istore_n 2, 0, 0, 0, 0, 0, []),
  (2, 1, .iload_n 2, 0, 0, 0, 0, 0, []),
  (3, 1, .aload_n 0, 0, 0, 0, 0, 0, []),
  (4, 3, .getfield 18, 7, 2, 0, 45, 0, []),
  (7, 1, .iconst 1, 0, 0, 0, 0, 1, []),
  (8, 1, .isub, 0, 0, 0, 0, 0, []),
  (9, 3, .if_icmp .ge 51, 60, 0, 0, 0, 0, []),
  (12, 1, .aload_n 0, 0, 0, 0, 0, 0, []),
  (13, 3, .getfield 28, 7, 5, 2, 48, 0, []),
  (16, 1, .iload_n 2, 0, 0, 0, 0, 0, []),
  (17, 1, .aload_n 0, 0, 0, 0, 0, 0, []),
  (18, 3, .getfield 28, 7, 5, 2, 48, 0, []),
  (21, 1, .iload_n 2, 0, 0, 0, 0, 0, []),
  (22, 1, .iconst 1, 0, 0, 0, 0, 1, []),
  (23, 1, .iadd, 0, 0, 0, 0, 0, []),
  (24, 1, .iaload, 0, 0, 0, 0, 0, []),
  (25, 1, .iastore, 0, 0, 0, 0, 0, []),
  (26, 1, .aload_n 0, 0, 0, 0, 0, 0, []),
  (27, 3, .getfield 31, 7, 6, 2, 49, 0, []),
  (30, 1, .iload_n 2, 0, 0, 0, 0, 0, []),
  (31, 1, .aload_n 0, 0, 0, 0, 0, 0, []),
  (32, 3, .getfield 31, 7, 6, 2, 49, 0, []),
  (35, 1, .iload_n 2, 0, 0, 0, 0, 0, []),
  (36, 1, .iconst 1, 0, 0, 0, 0, 1, []),
  (37, 1, .iadd, 0, 0, 0, 0, 0, []),
  (38, 1, .iaload, 0, 0, 0, 0, 0, []),
  (39, 1, .iastore, 0, 0, 0, 0, 0, []),
  (40, 1, .aload_n 0, 0, 0, 0, 0, 0, []),
  (41, 3, .getfield 34, 7, 7, 2, 50, 0, []),
  (44, 1, .iload_n 2, 0, 0, 0, 0, 0, []),
  (45, 1, .aload_n 0, 0, 0, 0, 0, 0, []),
  (46, 3, .getfield 34, 7, 7, 2, 50, 0, []),
  (49, 1, .iload_n 2, 0, 0, 0, 0, 0, []),
  (50, 1, .iconst 1, 0, 0, 0, 0, 1, []),
  (51, 1, .iadd, 0, 0, 0, 0, 0, []),
  (52, 1, .iaload, 0, 0, 0, 0, 0, []),
  (53, 1, .iastore, 0, 0, 0, 0, 0, []),
  (54, 3, .iinc 2 1, 0, 0, 0, 0, 1, []),
  (57, 3, .goto (-55), 2, 0, 0, 0, 0, []),
  (60, 1, .aload_n 0, 0, 0, 0, 0, 0, []),
  (61, 1, .dup, 0, 0, 0, 0, 0, []),
  (62, 3, .getfield 18, 7, 2, 0, 45, 0, []),
  (65, 1, .iconst 1, 0, 0, 0, 0, 1, []),
  (66, 1, .isub, 0, 0, 0, 0, 0, []),
  (67, 3, .putfield 18, 7, 2, 0, 45, 0, []),
  (70, 1, .return_, 0, 0, 0, 0, 0, [])]
theorem ckS_remove : cdS_remove.all (rowOK mS_remove) = true := by decide +kernel
def cdS_place : List Row := [
  (0, 1, .iload_n 2, 0, 0, 0, 0, 0, []),
  (1, 1, .iload_n 3, 0, 0, 0, 0, 0, []),
  (2, 3, .invokestatic 53, mS_commonDivisor, 2, 0, 87, 0, [(0, 1)]),
  (5, 2, .iload 4, 0, 0, 0, 0, 0, []),
  (7, 3, .invokestatic 53, mS_commonDivisor, 2, 0, 87, 0, [(0, 1)]),
  (10, 2, .istore 5, 0, 0, 0, 0, 0, []),
  (12, 2, .iload 5, 0, 0, 0, 0, 0, []),
  (14, 1, .iconst 1, 0, 0, 0, 0, 1, []),
  (15, 3, .if_icmp .ge 5, 20, 0, 0, 0, 0, []),
  (18, 1, .iconst 0, 0, 0, 0, 0, 0, []),
  (19, 1, .ireturn, 0, 0, 1, 0, 0, []),
  (20, 1, .iload_n 2, 0, 0, 0, 0, 0, []),
  (21, 2, .iload 5, 0, 0, 0, 0, 0, []),
  (23, 1, .idiv, 0, 0, 0, 0, 0, []),
  (24, 2, .istore 6, 0, 0, 0, 0, 0, []),
  (26, 1, .iload_n 3, 0, 0, 0, 0, 0, []),
  (27, 2, .iload 5, 0, 0, 0, 0, 0, []),
  (29, 1, .idiv, 0, 0, 0, 0, 0, []),
  (30, 2, .istore 7, 0, 0, 0, 0, 0, []),
  (32, 2, .iload 4, 0, 0, 0, 0, 0, []),
  (34, 2, .iload 5, 0, 0, 0, 0, 0, []),
  (36, 1, .idiv, 0, 0, 0, 0, 0, []),
  (37, 2, .istore 8, 0, 0, 0, 0, 0, []),
  (39, 1, .aload_n 0, 0, 0, 0, 0, 0, []),
  (40, 3, .getfield 28, 7, 5, 2, 48, 0, []),
  (43, 1, .iload_n 1, 0, 0, 0, 0, 0, []),
  (44, 1, .iaload, 0, 0, 0, 0, 0, []),
  (45, 2, .iload 6, 0, 0, 0, 0, 0, []),
  (47, 3, .if_icmp .ne 25, 72, 0, 0, 0, 0, []),
  (50, 1, .aload_n 0, 0, 0, 0, 0, 0, []),
  (51, 3, .getfield 31, 7, 6, 2, 49, 0, []),
  (54, 1, .iload_n 1, 0, 0, 0, 0, 0, []),
  (55, 1, .iaload, 0, 0, 0, 0, 0, []),
  (56, 2, .iload 7, 0, 0, 0, 0, 0, []),
  (58, 3, .if_icmp .ne 14, 72, 0, 0, 0, 0, []),
  (61, 1, .aload_n 0, 0, 0, 0, 0, 0, []),
  (62, 3, .getfield 34, 7, 7, 2, 50, 0, []),
  (65, 1, .iload_n 1, 0, 0, 0, 0, 0, []),
  (66, 1, .iaload, 0, 0, 0, 0, 0, []),
  (67, 2, .iload 8, 0, 0, 0, 0, 0, []),
  (69, 3, .if_icmp .eq 7, 76, 0, 0, 0, 0, []),
  (72, 1, .iconst 1, 0, 0, 0, 0, 1, []),
  (73, 3, .goto 4, 77, 0, 0, 0, 0, []),
  (76, 1, .iconst 0, 0, 0, 0, 0, 0, []),
  (77, 2, .istore 9, 0, 0, 0, 0, 0, []),
  (79, 1, .aload_n 0, 0, 0, 0, 0, 0, []),
  (80, 3, .getfield 28, 7, 5, 2, 48, 0, []),
  (83, 1, .iload_n 1, 0, 0, 0, 0, 0, []),
  (84, 2, .iload 6, 0, 0, 0, 0, 0, []),
  (86, 1, .iastore, 0, 0, 0, 0, 0, []),
  (87, 1, .aload_n 0, 0, 0, 0, 0, 0, []),
  (88, 3, .getfield 31, 7, 6, 2, 49, 0, []),
  (91, 1, .iload_n 1, 0, 0, 0, 0, 0, []),
  (92, 2, .iload 7, 0, 0, 0, 0, 0, []),
  (94, 1, .iastore, 0, 0, 0, 0, 0, []),
  (95, 1, .aload_n 0, 0, 0, 0, 0, 0, []),
  (96, 3, .getfield 34, 7, 7, 2, 50, 0, []),
  (99, 1, .iload_n 1, 0, 0, 0, 0, 0, []),
  (100, 2, .iload 8, 0, 0, 0, 0, 0, []),
  (102, 1, .iastore, 0, 0, 0, 0, 0, []),
  (103, 2, .iload 9, 0, 0, 0, 0, 0, []),
  (105, 1, .ireturn, 0, 0, 1, 0, 0, [])]
theorem ckS_place : cdS_place.all (rowOK mS_place) = true := by decide +kernel
def cdS_commonDivisor : List Row := [
  (0, 1, .iload_n 0, 0, 0, 0, 0, 0, []),
  (1, 1, .istore_n 2, 0, 0, 0, 0, 0, []),
  (2, 1, .iload_n 1, 0, 0, 0, 0, 0, []),
  (3, 1, .istore_n 3, 0, 0, 0, 0, 0, []),
  (4, 1, .iconst 0, 0, 0, 0, 0, 0, []),
  (5, 2, .istore 4, 0, 0, 0, 0, 0, []),
  (7, 2, .iload 4, 0, 0, 0, 0, 0, []),
  (9, 2, .bipush 64, 0, 0, 0, 0, 64, []),
  (11, 3, .if_icmp .ge 23, 34, 0, 0, 0, 0, []),
  (14, 1, .iload_n 3, 0, 0, 0, 0, 0, []),
  (15, 3, .ifCond .eq 19, 34, 0, 0, 0, 0, []),
  (18, 1, .iload_n 2, 0, 0, 0, 0, 0, []),
  (19, 1, .iload_n 3, 0, 0, 0, 0, 0, []),
  (20, 1, .irem, 0, 0, 0, 0, 0, []),
  (21, 2, .istore 5, 0, 0, 0, 0, 0, []),
  (23, 1, .iload_n 3, 0, 0, 0, 0, 0, []),
  (24, 1, .istore_n 2, 0, 0, 0, 0, 0, []),
  (25, 2, .iload 5, 0, 0, 0, 0, 0, []),
  (27, 1, .istore_n 3, 0, 0, 0, 0, 0, []),
  (28, 3, .iinc 4 1, 0, 0, 0, 0, 1, []),
  (31, 3, .goto (-24), 7, 0, 0, 0, 0, []),
  (34, 1, .iload_n 2, 0, 0, 0, 0, 0, []),
  (35, 1, .ireturn, 0, 0, 0, 0, 0, [])]
theorem ckS_commonDivisor : cdS_commonDivisor.all (rowOK mS_commonDivisor) = true := by decide +kernel
def cdS_liesJustAt : List Row := [
  (0, 1, .aload_n 0, 0, 0, 0, 0, 0, []),
  (1, 3, .getfield 34, 7, 7, 2, 50, 0, []),
  (4, 1, .iload_n 1, 0, 0, 0, 0, 0, []),
  (5, 1, .iaload, 0, 0, 0, 0, 0, []),
  (6, 1, .iconst 1, 0, 0, 0, 0, 1, []),
  (7, 3, .if_icmp .ne 27, 34, 0, 0, 0, 0, []),
  (10, 1, .aload_n 0, 0, 0, 0, 0, 0, []),
  (11, 3, .getfield 28, 7, 5, 2, 48, 0, []),
  (14, 1, .iload_n 1, 0, 0, 0, 0, 0, []),
  (15, 1, .iaload, 0, 0, 0, 0, 0, []),
  (16, 1, .iload_n 2, 0, 0, 0, 0, 0, []),
  (17, 3, .if_icmp .ne 17, 34, 0, 0, 0, 0, []),
  (20, 1, .aload_n 0, 0, 0, 0, 0, 0, []),
  (21, 3, .getfield 31, 7, 6, 2, 49, 0, []),
  (24, 1, .iload_n 1, 0, 0, 0, 0, 0, []),
  (25, 1, .iaload, 0, 0, 0, 0, 0, []),
  (26, 1, .iload_n 3, 0, 0, 0, 0, 0, []),
  (27, 3, .if_icmp .ne 7, 34, 0, 0, 0, 0, []),
  (30, 1, .iconst 1, 0, 0, 0, 0, 1, []),
  (31, 3, .goto 4, 35, 0, 0, 0, 0, []),
  (34, 1, .iconst 0, 0, 0, 0, 0, 0, []),
  (35, 1, .ireturn, 0, 0, 1, 0, 0, [])]
theorem ckS_liesJustAt : cdS_liesJustAt.all (rowOK mS_liesJustAt) = true := by decide +kernel
def cdS_liesAsIn : List Row := [
  (0, 1, .aload_n 0, 0, 0, 0, 0, 0, []),
  (1, 3, .getfield 28, 7, 5, 2, 48, 0, []),
  (4, 1, .iload_n 1, 0, 0, 0, 0, 0, []),
  (5, 1, .iaload, 0, 0, 0, 0, 0, []),
  (6, 1, .aload_n 2, 0, 0, 0, 0, 0, []),
  (7, 3, .getfield 28, 7, 5, 2, 48, 0, []),
  (10, 1, .iload_n 1, 0, 0, 0, 0, 0, []),
  (11, 1, .iaload, 0, 0, 0, 0, 0, []),
  (12, 3, .if_icmp .ne 37, 49, 0, 0, 0, 0, []),
  (15, 1, .aload_n 0, 0, 0, 0, 0, 0, []),
  (16, 3, .getfield 31, 7, 6, 2, 49, 0, []),
  (19, 1, .iload_n 1, 0, 0, 0, 0, 0, []),
  (20, 1, .iaload, 0, 0, 0, 0, 0, []),
  (21, 1, .aload_n 2, 0, 0, 0, 0, 0, []),
  (22, 3, .getfield 31, 7, 6, 2, 49, 0, []),
  (25, 1, .iload_n 1, 0, 0, 0, 0, 0, []),
  (26, 1, .iaload, 0, 0, 0, 0, 0, []),
  (27, 3, .if_icmp .ne 22, 49, 0, 0, 0, 0, []),
  (30, 1, .aload_n 0, 0, 0, 0, 0, 0, []),
  (31, 3, .getfield 34, 7, 7, 2, 50, 0, []),
  (34, 1, .iload_n 1, 0, 0, 0, 0, 0, []),
  (35, 1, .iaload, 0, 0, 0, 0, 0, []),
  (36, 1, .aload_n 2, 0, 0, 0, 0, 0, []),
  (37, 3, .getfield 34, 7, 7, 2, 50, 0, []),
  (40, 1, .iload_n 1, 0, 0, 0, 0, 0, []),
  (41, 1, .iaload, 0, 0, 0, 0, 0, []),
  (42, 3, .if_icmp .ne 7, 49, 0, 0, 0, 0, []),
  (45, 1, .iconst 1, 0, 0, 0, 0, 1, []),
  (46, 3, .goto 4, 50, 0, 0, 0, 0, []),
  (49, 1, .iconst 0, 0, 0, 0, 0, 0, []),
  (50, 1, .ireturn, 0, 0, 1, 0, 0, [])]
theorem ckS_liesAsIn : cdS_liesAsIn.all (rowOK mS_liesAsIn) = true := by decide +kernel
def cdS_gap : List Row := [
  (0, 1, .iload_n 2, 0, 0, 0, 0, 0, []),
  (1, 1, .i2l, 0, 0, 0, 0, 0, []),
  (2, 1, .aload_n 0, 0, 0, 0, 0, 0, []),
  (3, 3, .getfield 34, 7, 7, 2, 50, 0, []),
  (6, 1, .iload_n 1, 0, 0, 0, 0, 0, []),
  (7, 1, .iaload, 0, 0, 0, 0, 0, []),
  (8, 1, .i2l, 0, 0, 0, 0, 0, []),
  (9, 1, .lmul, 0, 0, 0, 0, 0, []),
  (10, 1, .aload_n 0, 0, 0, 0, 0, 0, []),
  (11, 3, .getfield 28, 7, 5, 2, 48, 0, []),
  (14, 1, .iload_n 1, 0, 0, 0, 0, 0, []),
  (15, 1, .iaload, 0, 0, 0, 0, 0, []),
  (16, 1, .i2l, 0, 0, 0, 0, 0, []),
  (17, 1, .lsub, 0, 0, 0, 0, 0, []),
  (18, 2, .lstore 4, 0, 0, 0, 0, 0, []),
  (20, 1, .iload_n 3, 0, 0, 0, 0, 0, []),
  (21, 1, .i2l, 0, 0, 0, 0, 0, []),
  (22, 1, .aload_n 0, 0, 0, 0, 0, 0, []),
  (23, 3, .getfield 34, 7, 7, 2, 50, 0, []),
  (26, 1, .iload_n 1, 0, 0, 0, 0, 0, []),
  (27, 1, .iaload, 0, 0, 0, 0, 0, []),
  (28, 1, .i2l, 0, 0, 0, 0, 0, []),
  (29, 1, .lmul, 0, 0, 0, 0, 0, []),
  (30, 1, .aload_n 0, 0, 0, 0, 0, 0, []),
  (31, 3, .getfield 31, 7, 6, 2, 49, 0, []),
  (34, 1, .iload_n 1, 0, 0, 0, 0, 0, []),
  (35, 1, .iaload, 0, 0, 0, 0, 0, []),
  (36, 1, .i2l, 0, 0, 0, 0, 0, []),
  (37, 1, .lsub, 0, 0, 0, 0, 0, []),
  (38, 2, .lstore 6, 0, 0, 0, 0, 0, []),
  (40, 2, .lload 4, 0, 0, 0, 0, 0, []),
  (42, 2, .lload 4, 0, 0, 0, 0, 0, []),
  (44, 1, .lmul, 0, 0, 0, 0, 0, []),
  (45, 2, .lload 6, 0, 0, 0, 0, 0, []),
  (47, 2, .lload 6, 0, 0, 0, 0, 0, []),
  (49, 1, .lmul, 0, 0, 0, 0, 0, []),
  (50, 1, .ladd, 0, 0, 0, 0, 0, []),
  (51, 1, .lreturn, 0, 0, 0, 0, 0, [])]
theorem ckS_gap : cdS_gap.all (rowOK mS_gap) = true := by decide +kernel
def cdS_span : List Row := [
  (0, 1, .aload_n 0, 0, 0, 0, 0, 0, []),
  (1, 3, .getfield 34, 7, 7, 2, 50, 0, []),
  (4, 1, .iload_n 1, 0, 0, 0, 0, 0, []),
  (5, 1, .iaload, 0, 0, 0, 0, 0, []),
  (6, 1, .i2l, 0, 0, 0, 0, 0, []),
  (7, 1, .aload_n 0, 0, 0, 0, 0, 0, []),
  (8, 3, .getfield 34, 7, 7, 2, 50, 0, []),
  (11, 1, .iload_n 1, 0, 0, 0, 0, 0, []),
  (12, 1, .iaload, 0, 0, 0, 0, 0, []),
  (13, 1, .i2l, 0, 0, 0, 0, 0, []),
  (14, 1, .lmul, 0, 0, 0, 0, 0, []),
  (15, 1, .lreturn, 0, 0, 0, 0, 0, [])]
theorem ckS_span : cdS_span.all (rowOK mS_span) = true := by decide +kernel
def cdS_apart : List Row := [
  (0, 1, .aload_n 0, 0, 0, 0, 0, 0, []),
  (1, 3, .getfield 28, 7, 5, 2, 48, 0, []),
  (4, 1, .iload_n 1, 0, 0, 0, 0, 0, []),
  (5, 1, .iaload, 0, 0, 0, 0, 0, []),
  (6, 1, .i2l, 0, 0, 0, 0, 0, []),
  (7, 1, .aload_n 2, 0, 0, 0, 0, 0, []),
  (8, 3, .getfield 34, 7, 7, 2, 50, 0, []),
  (11, 1, .iload_n 3, 0, 0, 0, 0, 0, []),
  (12, 1, .iaload, 0, 0, 0, 0, 0, []),
  (13, 1, .i2l, 0, 0, 0, 0, 0, []),
  (14, 1, .lmul, 0, 0, 0, 0, 0, []),
  (15, 1, .aload_n 2, 0, 0, 0, 0, 0, []),
  (16, 3, .getfield 28, 7, 5, 2, 48, 0, []),
  (19, 1, .iload_n 3, 0, 0, 0, 0, 0, []),
  (20, 1, .iaload, 0, 0, 0, 0, 0, []),
  (21, 1, .i2l, 0, 0, 0, 0, 0, []),
  (22, 1, .aload_n 0, 0, 0, 0, 0, 0, []),
  (23, 3, .getfield 34, 7, 7, 2, 50, 0, []),
  (26, 1, .iload_n 1, 0, 0, 0, 0, 0, []),
  (27, 1, .iaload, 0, 0, 0, 0, 0, []),
  (28, 1, .i2l, 0, 0, 0, 0, 0, []),
  (29, 1, .lmul, 0, 0, 0, 0, 0, []),
  (30, 1, .lsub, 0, 0, 0, 0, 0, []),
  (31, 2, .lstore 4, 0, 0, 0, 0, 0, []),
  (33, 1, .aload_n 0, 0, 0, 0, 0, 0, []),
  (34, 3, .getfield 31, 7, 6, 2, 49, 0, []),
  (37, 1, .iload_n 1, 0, 0, 0, 0, 0, []),
  (38, 1, .iaload, 0, 0, 0, 0, 0, []),
  (39, 1, .i2l, 0, 0, 0, 0, 0, []),
  (40, 1, .aload_n 2, 0, 0, 0, 0, 0, []),
  (41, 3, .getfield 34, 7, 7, 2, 50, 0, []),
  (44, 1, .iload_n 3, 0, 0, 0, 0, 0, []),
  (45, 1, .iaload, 0, 0, 0, 0, 0, []),
  (46, 1, .i2l, 0, 0, 0, 0, 0, []),
  (47, 1, .lmul, 0, 0, 0, 0, 0, []),
  (48, 1, .aload_n 2, 0, 0, 0, 0, 0, []),
  (49, 3, .getfield 31, 7, 6, 2, 49, 0, []),
  (52, 1, .iload_n 3, 0, 0, 0, 0, 0, []),
  (53, 1, .iaload, 0, 0, 0, 0, 0, []),
  (54, 1, .i2l, 0, 0, 0, 0, 0, []),
  (55, 1, .aload_n 0, 0, 0, 0, 0, 0, []),
  (56, 3, .getfield 34, 7, 7, 2, 50, 0, []),
  (59, 1, .iload_n 1, 0, 0, 0, 0, 0, []),
  (60, 1, .iaload, 0, 0, 0, 0, 0, []),
  (61, 1, .i2l, 0, 0, 0, 0, 0, []),
  (62, 1, .lmul, 0, 0, 0, 0, 0, []),
  (63, 1, .lsub, 0, 0, 0, 0, 0, []),
  (64, 2, .lstore 6, 0, 0, 0, 0, 0, []),
  (66, 2, .lload 4, 0, 0, 0, 0, 0, []),
  (68, 2, .lload 4, 0, 0, 0, 0, 0, []),
  (70, 1, .lmul, 0, 0, 0, 0, 0, []),
  (71, 2, .lload 6, 0, 0, 0, 0, 0, []),
  (73, 2, .lload 6, 0, 0, 0, 0, 0, []),
  (75, 1, .lmul, 0, 0, 0, 0, 0, []),
  (76, 1, .ladd, 0, 0, 0, 0, 0, []),
  (77, 2, .lstore 8, 0, 0, 0, 0, 0, []),
  (79, 1, .aload_n 0, 0, 0, 0, 0, 0, []),
  (80, 1, .iload_n 1, 0, 0, 0, 0, 0, []),
  (81, 3, .invokevirtual 57, mS_span, 1, 7, 88, 0, [(0, 2)]),
  (84, 1, .aload_n 2, 0, 0, 0, 0, 0, []),
  (85, 1, .iload_n 3, 0, 0, 0, 0, 0, []),
  (86, 3, .invokevirtual 57, mS_span, 1, 7, 88, 0, [(0, 2)]),
  (89, 1, .lmul, 0, 0, 0, 0, 0, []),
  (90, 2, .lstore 10, 0, 0, 0, 0, 0, []),
  (92, 2, .lload 8, 0, 0, 0, 0, 0, []),
  (94, 2, .lload 10, 0, 0, 0, 0, 0, []),
  (96, 3, .invokestatic 61, mC_divide, 2, 1, 89, 0, [(0, 2)]),
  (99, 2, .lstore 12, 0, 0, 0, 0, 0, []),
  (101, 2, .lload 12, 0, 0, 0, 0, 0, []),
  (103, 3, .ldc2_w 65, 1000, 0, 0, 2, 0, []),
  (106, 1, .lmul, 0, 0, 0, 0, 0, []),
  (107, 2, .lload 8, 0, 0, 0, 0, 0, []),
  (109, 2, .lload 12, 0, 0, 0, 0, 0, []),
  (111, 2, .lload 10, 0, 0, 0, 0, 0, []),
  (113, 1, .lmul, 0, 0, 0, 0, 0, []),
  (114, 1, .lsub, 0, 0, 0, 0, 0, []),
  (115, 3, .ldc2_w 65, 1000, 0, 0, 2, 0, []),
  (118, 1, .lmul, 0, 0, 0, 0, 0, []),
  (119, 2, .lload 10, 0, 0, 0, 0, 0, []),
  (121, 3, .invokestatic 61, mC_divide, 2, 1, 89, 0, [(0, 2)]),
  (124, 1, .ladd, 0, 0, 0, 0, 0, []),
  (125, 1, .lreturn, 0, 0, 0, 0, 0, [])]
theorem ckS_apart_0 : ((cdS_apart.drop 0).take 60).all (rowOK mS_apart) = true := by decide +kernel
theorem ckS_apart_60 : ((cdS_apart.drop 60).take 60).all (rowOK mS_apart) = true := by decide +kernel
theorem ckS_apart : cdS_apart.all (rowOK mS_apart) = true := by
  have h : (cdS_apart.drop 0).all (rowOK mS_apart) = true := (all_cut 60 ckS_apart_0 (by rw [List.drop_drop]; exact (all_cut 60 ckS_apart_60 (by rw [List.drop_drop]; exact (by rw [show cdS_apart.drop 120 = [] from rfl]; rfl)))))
  exact h
def cdS_dotsAheadOf : List Row := [
  (0, 1, .aload_n 0, 0, 0, 0, 0, 0, []),
  (1, 1, .iload_n 1, 0, 0, 0, 0, 0, []),
  (2, 1, .iload_n 2, 0, 0, 0, 0, 0, []),
  (3, 1, .iload_n 3, 0, 0, 0, 0, 0, []),
  (4, 3, .invokevirtual 67, mS_gap, 3, 7, 90, 0, [(0, 2)]),
  (7, 2, .lstore 4, 0, 0, 0, 0, 0, []),
  (9, 1, .aload_n 0, 0, 0, 0, 0, 0, []),
  (10, 1, .iload_n 1, 0, 0, 0, 0, 0, []),
  (11, 3, .invokevirtual 57, mS_span, 1, 7, 88, 0, [(0, 2)]),
  (14, 2, .lstore 6, 0, 0, 0, 0, 0, []),
  (16, 1, .iconst 0, 0, 0, 0, 0, 0, []),
  (17, 2, .istore 8, 0, 0, 0, 0, 0, []),
  (19, 1, .iconst 0, 0, 0, 0, 0, 0, []),
  (20, 2, .istore 9, 0, 0, 0, 0, 0, []),
  (22, 2, .iload 9, 0, 0, 0, 0, 0, []),
  (24, 1, .aload_n 0, 0, 0, 0, 0, 0, []),
  (25, 3, .getfield 18, 7, 2, 0, 45, 0, []),
  (28, 3, .if_icmp .ge 58, 86, 0, 0, 0, 0, []),
  (31, 1, .aload_n 0, 0, 0, 0, 0, 0, []),
  (32, 2, .iload 9, 0, 0, 0, 0, 0, []),
  (34, 1, .iload_n 2, 0, 0, 0, 0, 0, []),
  (35, 1, .iload_n 3, 0, 0, 0, 0, 0, []),
  (36, 3, .invokevirtual 67, mS_gap, 3, 7, 90, 0, [(0, 2)]),
  (39, 2, .lload 6, 0, 0, 0, 0, 0, []),
  (41, 1, .lmul, 0, 0, 0, 0, 0, []),
  (42, 2, .lstore 10, 0, 0, 0, 0, 0, []),
  (44, 2, .lload 4, 0, 0, 0, 0, 0, []),
  (46, 1, .aload_n 0, 0, 0, 0, 0, 0, []),
  (47, 2, .iload 9, 0, 0, 0, 0, 0, []),
  (49, 3, .invokevirtual 57, mS_span, 1, 7, 88, 0, [(0, 2)]),
  (52, 1, .lmul, 0, 0, 0, 0, 0, []),
  (53, 2, .lstore 12, 0, 0, 0, 0, 0, []),
  (55, 2, .lload 10, 0, 0, 0, 0, 0, []),
  (57, 2, .lload 12, 0, 0, 0, 0, 0, []),
  (59, 1, .lcmp, 0, 0, 0, 0, 0, []),
  (60, 3, .ifCond .lt 17, 77, 0, 0, 0, 0, []),
  (63, 2, .lload 10, 0, 0, 0, 0, 0, []),
  (65, 2, .lload 12, 0, 0, 0, 0, 0, []),
  (67, 1, .lcmp, 0, 0, 0, 0, 0, []),
  (68, 3, .ifCond .ne 12, 80, 0, 0, 0, 0, []),
  (71, 2, .iload 9, 0, 0, 0, 0, 0, []),
  (73, 1, .iload_n 1, 0, 0, 0, 0, 0, []),
  (74, 3, .if_icmp .ge 6, 80, 0, 0, 0, 0, []),
  (77, 3, .iinc 8 1, 0, 0, 0, 0, 1, []),
  (80, 3, .iinc 9 1, 0, 0, 0, 0, 1, []),
  (83, 3, .goto (-61), 22, 0, 0, 0, 0, []),
  (86, 2, .iload 8, 0, 0, 0, 0, 0, []),
  (88, 1, .ireturn, 0, 0, 0, 0, 0, [])]
theorem ckS_dotsAheadOf : cdS_dotsAheadOf.all (rowOK mS_dotsAheadOf) = true := by decide +kernel
def cdS_spotColumn : List Row := [
  (0, 1, .aload_n 0, 0, 0, 0, 0, 0, []),
  (1, 3, .getfield 28, 7, 5, 2, 48, 0, []),
  (4, 1, .iload_n 1, 0, 0, 0, 0, 0, []),
  (5, 1, .iaload, 0, 0, 0, 0, 0, []),
  (6, 1, .aload_n 0, 0, 0, 0, 0, 0, []),
  (7, 3, .getfield 34, 7, 7, 2, 50, 0, []),
  (10, 1, .iload_n 1, 0, 0, 0, 0, 0, []),
  (11, 1, .iaload, 0, 0, 0, 0, 0, []),
  (12, 3, .invokestatic 71, mS_nearestWhole, 2, 0, 91, 0, [(0, 1)]),
  (15, 1, .ireturn, 0, 0, 0, 0, 0, [])]
theorem ckS_spotColumn : cdS_spotColumn.all (rowOK mS_spotColumn) = true := by decide +kernel
def cdS_spotRow : List Row := [
  (0, 1, .aload_n 0, 0, 0, 0, 0, 0, []),
  (1, 3, .getfield 31, 7, 6, 2, 49, 0, []),
  (4, 1, .iload_n 1, 0, 0, 0, 0, 0, []),
  (5, 1, .iaload, 0, 0, 0, 0, 0, []),
  (6, 1, .aload_n 0, 0, 0, 0, 0, 0, []),
  (7, 3, .getfield 34, 7, 7, 2, 50, 0, []),
  (10, 1, .iload_n 1, 0, 0, 0, 0, 0, []),
  (11, 1, .iaload, 0, 0, 0, 0, 0, []),
  (12, 3, .invokestatic 71, mS_nearestWhole, 2, 0, 91, 0, [(0, 1)]),
  (15, 1, .ireturn, 0, 0, 0, 0, 0, [])]
theorem ckS_spotRow : cdS_spotRow.all (rowOK mS_spotRow) = true := by decide +kernel
def cdS_nearestWhole : List Row := [
  (0, 1, .iload_n 1, 0, 0, 0, 0, 0, []),
  (1, 3, .ifCond .le 17, 18, 0, 0, 0, 0, []),
  (4, 1, .iconst 2, 0, 0, 0, 0, 2, []),
  (5, 1, .iload_n 0, 0, 0, 0, 0, 0, []),
  (6, 1, .imul, 0, 0, 0, 0, 0, []),
  (7, 1, .iload_n 1, 0, 0, 0, 0, 0, []),
  (8, 1, .iadd, 0, 0, 0, 0, 0, []),
  (9, 1, .iconst 1, 0, 0, 0, 0, 1, []),
  (10, 1, .isub, 0, 0, 0, 0, 0, []),
  (11, 1, .iconst 2, 0, 0, 0, 0, 2, []),
  (12, 1, .iload_n 1, 0, 0, 0, 0, 0, []),
  (13, 1, .imul, 0, 0, 0, 0, 0, []),
  (14, 1, .idiv, 0, 0, 0, 0, 0, []),
  (15, 3, .goto 4, 19, 0, 0, 0, 0, []),
  (18, 1, .iconst 0, 0, 0, 0, 0, 0, []),
  (19, 1, .ireturn, 0, 0, 0, 0, 0, [])]
theorem ckS_nearestWhole : cdS_nearestWhole.all (rowOK mS_nearestWhole) = true := by decide +kernel
def cdS_spotOf : List Row := [
  (0, 1, .aload_n 0, 0, 0, 0, 0, 0, []),
  (1, 1, .aload_n 0, 0, 0, 0, 0, 0, []),
  (2, 1, .iload_n 1, 0, 0, 0, 0, 0, []),
  (3, 3, .invokevirtual 74, mS_spotColumn, 1, 7, 92, 0, [(0, 1)]),
  (6, 1, .aload_n 0, 0, 0, 0, 0, 0, []),
  (7, 1, .iload_n 1, 0, 0, 0, 0, 0, []),
  (8, 3, .invokevirtual 78, mS_spotRow, 1, 7, 93, 0, [(0, 1)]),
  (11, 3, .invokevirtual 81, mS_numberOf, 2, 7, 94, 0, [(0, 1)]),
  (14, 1, .ireturn, 0, 0, 0, 0, 0, [])]
theorem ckS_spotOf : cdS_spotOf.all (rowOK mS_spotOf) = true := by decide +kernel
def cdS_spotsWithin : List Row := [
  (0, 1, .iconst 0, 0, 0, 0, 0, 0, []),
  (1, 2, .istore 5, 0, 0, 0, 0, 0, []),
  (3, 1, .iconst 0, 0, 0, 0, 0, 0, []),
  (4, 2, .istore 6, 0, 0, 0, 0, 0, []),
  (6, 2, .iload 6, 0, 0, 0, 0, 0, []),
  (8, 1, .aload_n 0, 0, 0, 0, 0, 0, []),
  (9, 3, .getfield 18, 7, 2, 0, 45, 0, []),
  (12, 3, .if_icmp .ge 53, 65, 0, 0, 0, 0, []),
  (15, 1, .aload_n 0, 0, 0, 0, 0, 0, []),
  (16, 2, .iload 6, 0, 0, 0, 0, 0, []),
  (18, 3, .invokevirtual 74, mS_spotColumn, 1, 7, 92, 0, [(0, 1)]),
  (21, 2, .istore 7, 0, 0, 0, 0, 0, []),
  (23, 1, .aload_n 0, 0, 0, 0, 0, 0, []),
  (24, 2, .iload 6, 0, 0, 0, 0, 0, []),
  (26, 3, .invokevirtual 78, mS_spotRow, 1, 7, 93, 0, [(0, 1)]),
  (29, 2, .istore 8, 0, 0, 0, 0, 0, []),
  (31, 2, .iload 7, 0, 0, 0, 0, 0, []),
  (33, 1, .iload_n 1, 0, 0, 0, 0, 0, []),
  (34, 3, .if_icmp .lt 25, 59, 0, 0, 0, 0, []),
  (37, 2, .iload 7, 0, 0, 0, 0, 0, []),
  (39, 1, .iload_n 3, 0, 0, 0, 0, 0, []),
  (40, 3, .if_icmp .gt 19, 59, 0, 0, 0, 0, []),
  (43, 2, .iload 8, 0, 0, 0, 0, 0, []),
  (45, 1, .iload_n 2, 0, 0, 0, 0, 0, []),
  (46, 3, .if_icmp .lt 13, 59, 0, 0, 0, 0, []),
  (49, 2, .iload 8, 0, 0, 0, 0, 0, []),
  (51, 2, .iload 4, 0, 0, 0, 0, 0, []),
  (53, 3, .if_icmp .gt 6, 59, 0, 0, 0, 0, []),
  (56, 3, .iinc 5 1, 0, 0, 0, 0, 1, []),
  (59, 3, .iinc 6 1, 0, 0, 0, 0, 1, []),
  (62, 3, .goto (-56), 6, 0, 0, 0, 0, []),
  (65, 2, .iload 5, 0, 0, 0, 0, 0, []),
  (67, 1, .ireturn, 0, 0, 0, 0, 0, [])]
theorem ckS_spotsWithin : cdS_spotsWithin.all (rowOK mS_spotsWithin) = true := by decide +kernel
def cdS_greyWithin : List Row := [
  (0, 1, .iconst 0, 0, 0, 0, 0, 0, []),
  (1, 2, .istore 5, 0, 0, 0, 0, 0, []),
  (3, 1, .iload_n 2, 0, 0, 0, 0, 0, []),
  (4, 2, .istore 6, 0, 0, 0, 0, 0, []),
  (6, 2, .iload 6, 0, 0, 0, 0, 0, []),
  (8, 2, .iload 4, 0, 0, 0, 0, 0, []),
  (10, 3, .if_icmp .gt 44, 54, 0, 0, 0, 0, []),
  (13, 1, .iload_n 1, 0, 0, 0, 0, 0, []),
  (14, 2, .istore 7, 0, 0, 0, 0, 0, []),
  (16, 2, .iload 7, 0, 0, 0, 0, 0, []),
  (18, 1, .iload_n 3, 0, 0, 0, 0, 0, []),
  (19, 3, .if_icmp .gt 29, 48, 0, 0, 0, 0, []),
  (22, 2, .iload 5, 0, 0, 0, 0, 0, []),
  (24, 1, .aload_n 0, 0, 0, 0, 0, 0, []),
  (25, 3, .getfield 24, 7, 4, 2, 47, 0, []),
  (28, 2, .iload 6, 0, 0, 0, 0, 0, []),
  (30, 1, .aload_n 0, 0, 0, 0, 0, 0, []),
  (31, 3, .getfield 9, 7, 0, 0, 43, 0, []),
  (34, 1, .imul, 0, 0, 0, 0, 0, []),
  (35, 2, .iload 7, 0, 0, 0, 0, 0, []),
  (37, 1, .iadd, 0, 0, 0, 0, 0, []),
  (38, 1, .iaload, 0, 0, 0, 0, 0, []),
  (39, 1, .iadd, 0, 0, 0, 0, 0, []),
  (40, 2, .istore 5, 0, 0, 0, 0, 0, []),
  (42, 3, .iinc 7 1, 0, 0, 0, 0, 1, []),
  (45, 3, .goto (-29), 16, 0, 0, 0, 0, []),
  (48, 3, .iinc 6 1, 0, 0, 0, 0, 1, []),
  (51, 3, .goto (-45), 6, 0, 0, 0, 0, []),
  (54, 2, .iload 5, 0, 0, 0, 0, 0, []),
  (56, 1, .ireturn, 0, 0, 0, 0, 0, [])]
theorem ckS_greyWithin : cdS_greyWithin.all (rowOK mS_greyWithin) = true := by decide +kernel
def cdS_sumByShade : List Row := [
  (0, 1, .aload_n 1, 0, 0, 0, 0, 0, []),
  (1, 1, .iconst 0, 0, 0, 0, 0, 0, []),
  (2, 3, .invokestatic 37, mJa_fillI, 2, 0, 85, 0, [(0, 0)]),
  (5, 1, .iconst 0, 0, 0, 0, 0, 0, []),
  (6, 1, .istore_n 2, 0, 0, 0, 0, 0, []),
  (7, 1, .iload_n 2, 0, 0, 0, 0, 0, []),
  (8, 1, .aload_n 0, 0, 0, 0, 0, 0, []),
  (9, 3, .invokevirtual 84, mS_size, 0, 7, 95, 0, [(0, 1)]),
  (12, 3, .if_icmp .ge 26, 38, 0, 0, 0, 0, []),
  (15, 1, .aload_n 1, 0, 0, 0, 0, 0, []),
  (16, 1, .aload_n 0, 0, 0, 0, 0, 0, []),
  (17, 3, .getfield 24, 7, 4, 2, 47, 0, []),
  (20, 1, .iload_n 2, 0, 0, 0, 0, 0, []),
  (21, 1, .iaload, 0, 0, 0, 0, 0, []),
  (22, 1, .dup2, 0, 0, 0, 0, 0, []),
  (23, 1, .iaload, 0, 0, 0, 0, 0, []),
  (24, 1, .aload_n 0, 0, 0, 0, 0, 0, []),
  (25, 3, .getfield 24, 7, 4, 2, 47, 0, []),
  (28, 1, .iload_n 2, 0, 0, 0, 0, 0, []),
  (29, 1, .iaload, 0, 0, 0, 0, 0, []),
  (30, 1, .iadd, 0, 0, 0, 0, 0, []),
  (31, 1, .iastore, 0, 0, 0, 0, 0, []),
  (32, 3, .iinc 2 1, 0, 0, 0, 0, 1, []),
  (35, 3, .goto (-28), 7, 0, 0, 0, 0, []),
  (38, 1, .return_, 0, 0, 0, 0, 0, [])]
theorem ckS_sumByShade : cdS_sumByShade.all (rowOK mS_sumByShade) = true := by decide +kernel
def cdS_markBusy : List Row := [
  (0, 1, .iconst 0, 0, 0, 0, 0, 0, []),
  (1, 1, .istore_n 2, 0, 0, 0, 0, 0, []),
  (2, 1, .iload_n 2, 0, 0, 0, 0, 0, []),
  (3, 1, .aload_n 0, 0, 0, 0, 0, 0, []),
  (4, 3, .invokevirtual 84, mS_size, 0, 7, 95, 0, [(0, 1)]),
  (7, 3, .if_icmp .ge 13, 20, 0, 0, 0, 0, []),
  (10, 1, .aload_n 1, 0, 0, 0, 0, 0, []),
  (11, 1, .iload_n 2, 0, 0, 0, 0, 0, []),
  (12, 1, .iconst 0, 0, 0, 0, 0, 0, []),
  (13, 1, .bastore, 0, 0, 0, 0, 0, []),
  (14, 3, .iinc 2 1, 0, 0, 0, 0, 1, []),
  (17, 3, .goto (-15), 2, 0, 0, 0, 0, []),
  (20, 1, .iconst 0, 0, 0, 0, 0, 0, []),
  (21, 1, .istore_n 2, 0, 0, 0, 0, 0, []),
  (22, 1, .iload_n 2, 0, 0, 0, 0, 0, []),
  (23, 1, .aload_n 0, 0, 0, 0, 0, 0, []),
  (24, 3, .getfield 18, 7, 2, 0, 45, 0, []),
  (27, 3, .if_icmp .ge 38, 65, 0, 0, 0, 0, []),
  (30, 1, .aload_n 0, 0, 0, 0, 0, 0, []),
  (31, 3, .getfield 34, 7, 7, 2, 50, 0, []),
  (34, 1, .iload_n 2, 0, 0, 0, 0, 0, []),
  (35, 1, .iaload, 0, 0, 0, 0, 0, []),
  (36, 1, .iconst 1, 0, 0, 0, 0, 1, []),
  (37, 3, .if_icmp .ne 22, 59, 0, 0, 0, 0, []),
  (40, 1, .aload_n 1, 0, 0, 0, 0, 0, []),
  (41, 1, .aload_n 0, 0, 0, 0, 0, 0, []),
  (42, 1, .aload_n 0, 0, 0, 0, 0, 0, []),
  (43, 3, .getfield 28, 7, 5, 2, 48, 0, []),
  (46, 1, .iload_n 2, 0, 0, 0, 0, 0, []),
  (47, 1, .iaload, 0, 0, 0, 0, 0, []),
  (48, 1, .aload_n 0, 0, 0, 0, 0, 0, []),
  (49, 3, .getfield 31, 7, 6, 2, 49, 0, []),
  (52, 1, .iload_n 2, 0, 0, 0, 0, 0, []),
  (53, 1, .iaload, 0, 0, 0, 0, 0, []),
  (54, 3, .invokevirtual 81, mS_numberOf, 2, 7, 94, 0, [(0, 1)]),
  (57, 1, .iconst 1, 0, 0, 0, 0, 1, []),
  (58, 1, .bastore, 0, 0, 0, 0, 0, []),
  (59, 3, .iinc 2 1, 0, 0, 0, 0, 1, []),
  (62, 3, .goto (-40), 22, 0, 0, 0, 0, []),
  (65, 1, .return_, 0, 0, 0, 0, 0, [])]
theorem ckS_markBusy : cdS_markBusy.all (rowOK mS_markBusy) = true := by decide +kernel
def cdS_freeGreyCells : List Row := [
  (0, 1, .iconst 0, 0, 0, 0, 0, 0, []),
  (1, 1, .istore_n 2, 0, 0, 0, 0, 0, []),
  (2, 1, .iconst 0, 0, 0, 0, 0, 0, []),
  (3, 1, .istore_n 3, 0, 0, 0, 0, 0, []),
  (4, 1, .iload_n 3, 0, 0, 0, 0, 0, []),
  (5, 1, .aload_n 0, 0, 0, 0, 0, 0, []),
  (6, 3, .invokevirtual 84, mS_size, 0, 7, 95, 0, [(0, 1)]),
  (9, 3, .if_icmp .ge 27, 36, 0, 0, 0, 0, []),
  (12, 1, .aload_n 1, 0, 0, 0, 0, 0, []),
  (13, 1, .iload_n 3, 0, 0, 0, 0, 0, []),
  (14, 1, .baload, 0, 0, 0, 0, 0, []),
  (15, 3, .ifCond .ne 15, 30, 0, 0, 0, 0, []),
  (18, 1, .aload_n 0, 0, 0, 0, 0, 0, []),
  (19, 3, .getfield 24, 7, 4, 2, 47, 0, []),
  (22, 1, .iload_n 3, 0, 0, 0, 0, 0, []),
  (23, 1, .iaload, 0, 0, 0, 0, 0, []),
  (24, 3, .ifCond .le 6, 30, 0, 0, 0, 0, []),
  (27, 3, .iinc 2 1, 0, 0, 0, 0, 1, []),
  (30, 3, .iinc 3 1, 0, 0, 0, 0, 1, []),
  (33, 3, .goto (-29), 4, 0, 0, 0, 0, []),
  (36, 1, .iload_n 2, 0, 0, 0, 0, 0, []),
  (37, 1, .ireturn, 0, 0, 0, 0, 0, [])]
theorem ckS_freeGreyCells : cdS_freeGreyCells.all (rowOK mS_freeGreyCells) = true := by decide +kernel
def cdS_drawOne : List Row := [
  (0, 1, .iconst 0, 0, 0, 0, 0, 0, []),
  (1, 1, .istore_n 2, 0, 0, 0, 0, 0, []),
  (2, 1, .iconst 0, 0, 0, 0, 0, 0, []),
  (3, 1, .istore_n 3, 0, 0, 0, 0, 0, []),
  (4, 1, .iload_n 3, 0, 0, 0, 0, 0, []),
  (5, 1, .aload_n 0, 0, 0, 0, 0, 0, []),
  (6, 3, .invokevirtual 84, mS_size, 0, 7, 95, 0, [(0, 1)]),
  (9, 3, .if_icmp .ge 28, 37, 0, 0, 0, 0, []),
  (12, 1, .iload_n 2, 0, 0, 0, 0, 0, []),
  (13, 1, .aload_n 1, 0, 0, 0, 0, 0, []),
  (14, 1, .iload_n 3, 0, 0, 0, 0, 0, []),
  (15, 1, .baload, 0, 0, 0, 0, 0, []),
  (16, 3, .ifCond .eq 7, 23, 0, 0, 0, 0, []),
  (19, 1, .iconst 0, 0, 0, 0, 0, 0, []),
  (20, 3, .goto 9, 29, 0, 0, 0, 0, []),
  (23, 1, .aload_n 0, 0, 0, 0, 0, 0, []),
  (24, 3, .getfield 24, 7, 4, 2, 47, 0, []),
  (27, 1, .iload_n 3, 0, 0, 0, 0, 0, []),
  (28, 1, .iaload, 0, 0, 0, 0, 0, []),
  (29, 1, .iadd, 0, 0, 0, 0, 0, []),
  (30, 1, .istore_n 2, 0, 0, 0, 0, 0, []),
  (31, 3, .iinc 3 1, 0, 0, 0, 0, 1, []),
  (34, 3, .goto (-30), 4, 0, 0, 0, 0, []),
  (37, 1, .aload_n 0, 0, 0, 0, 0, 0, []),
  (38, 1, .iload_n 2, 0, 0, 0, 0, 0, []),
  (39, 3, .invokevirtual 88, mS_drawBelow, 1, 7, 96, 0, [(0, 1)]),
  (42, 1, .istore_n 3, 0, 0, 0, 0, 0, []),
  (43, 1, .iconst 0, 0, 0, 0, 0, 0, []),
  (44, 2, .istore 4, 0, 0, 0, 0, 0, []),
  (46, 1, .iconst 0, 0, 0, 0, 0, 0, []),
  (47, 2, .istore 5, 0, 0, 0, 0, 0, []),
  (49, 2, .iload 5, 0, 0, 0, 0, 0, []),
  (51, 1, .aload_n 0, 0, 0, 0, 0, 0, []),
  (52, 3, .invokevirtual 84, mS_size, 0, 7, 95, 0, [(0, 1)]),
  (55, 3, .if_icmp .ge 60, 115, 0, 0, 0, 0, []),
  (58, 2, .iload 4, 0, 0, 0, 0, 0, []),
  (60, 1, .aload_n 1, 0, 0, 0, 0, 0, []),
  (61, 2, .iload 5, 0, 0, 0, 0, 0, []),
  (63, 1, .baload, 0, 0, 0, 0, 0, []),
  (64, 3, .ifCond .eq 7, 71, 0, 0, 0, 0, []),
  (67, 1, .iconst 0, 0, 0, 0, 0, 0, []),
  (68, 3, .goto 10, 78, 0, 0, 0, 0, []),
  (71, 1, .aload_n 0, 0, 0, 0, 0, 0, []),
  (72, 3, .getfield 24, 7, 4, 2, 47, 0, []),
  (75, 2, .iload 5, 0, 0, 0, 0, 0, []),
  (77, 1, .iaload, 0, 0, 0, 0, 0, []),
  (78, 1, .iadd, 0, 0, 0, 0, 0, []),
  (79, 2, .istore 4, 0, 0, 0, 0, 0, []),
  (81, 2, .iload 4, 0, 0, 0, 0, 0, []),
  (83, 1, .iload_n 3, 0, 0, 0, 0, 0, []),
  (84, 3, .if_icmp .le 25, 109, 0, 0, 0, 0, []),
  (87, 1, .aload_n 1, 0, 0, 0, 0, 0, []),
  (88, 2, .iload 5, 0, 0, 0, 0, 0, []),
  (90, 1, .iconst 1, 0, 0, 0, 0, 1, []),
  (91, 1, .bastore, 0, 0, 0, 0, 0, []),
  (92, 1, .aload_n 0, 0, 0, 0, 0, 0, []),
  (93, 1, .aload_n 0, 0, 0, 0, 0, 0, []),
  (94, 2, .iload 5, 0, 0, 0, 0, 0, []),
  (96, 3, .invokevirtual 91, mS_columnOf, 1, 7, 97, 0, [(0, 1)]),
  (99, 1, .aload_n 0, 0, 0, 0, 0, 0, []),
  (100, 2, .iload 5, 0, 0, 0, 0, 0, []),
  (102, 3, .invokevirtual 94, mS_rowOf, 1, 7, 98, 0, [(0, 1)]),
  (105, 3, .invokevirtual 97, mS_add, 2, 7, 99, 0, [(0, 0)]),
  (108, 1, .return_, 0, 0, 0, 0, 0, []),
  (109, 3, .iinc 5 1, 0, 0, 0, 0, 1, []),
  (112, 3, .goto (-63), 49, 0, 0, 0, 0, []),
  (115, 1, .return_, 0, 0, 0, 0, 0, [])]
theorem ckS_drawOne : cdS_drawOne.all (rowOK mS_drawOne) = true := by decide +kernel
def cdS_drawBelow : List Row := [
  (0, 1, .aload_n 0, 0, 0, 0, 0, 0, []),
  (1, 1, .aload_n 0, 0, 0, 0, 0, 0, []),
  (2, 3, .getfield 21, 7, 3, 0, 46, 0, []),
  (5, 1, .i2l, 0, 0, 0, 0, 0, []),
  (6, 3, .ldc2_w 101, 1103515245, 0, 0, 3, 0, []),
  (9, 1, .lmul, 0, 0, 0, 0, 0, []),
  (10, 3, .ldc2_w 103, 12345, 0, 0, 4, 0, []),
  (13, 1, .ladd, 0, 0, 0, 0, 0, []),
  (14, 3, .ldc2_w 105, 2147483647, 0, 0, 5, 0, []),
  (17, 1, .land, 0, 0, 0, 0, 0, []),
  (18, 1, .l2i, 0, 0, 0, 0, 0, []),
  (19, 3, .putfield 21, 7, 3, 0, 46, 0, []),
  (22, 1, .iload_n 1, 0, 0, 0, 0, 0, []),
  (23, 3, .ifCond .le 15, 38, 0, 0, 0, 0, []),
  (26, 1, .aload_n 0, 0, 0, 0, 0, 0, []),
  (27, 3, .getfield 21, 7, 3, 0, 46, 0, []),
  (30, 2, .bipush 16, 0, 0, 0, 0, 16, []),
  (32, 1, .ishr, 0, 0, 0, 0, 0, []),
  (33, 1, .iload_n 1, 0, 0, 0, 0, 0, []),
  (34, 1, .irem, 0, 0, 0, 0, 0, []),
  (35, 3, .goto 4, 39, 0, 0, 0, 0, []),
  (38, 1, .iconst 0, 0, 0, 0, 0, 0, []),
  (39, 1, .ireturn, 0, 0, 0, 0, 0, [])]
theorem ckS_drawBelow : cdS_drawBelow.all (rowOK mS_drawBelow) = true := by decide +kernel
def cdF_survey : List Row := [
  (0, 1, .aload_n 0, 0, 0, 0, 0, 0, []),
  (1, 3, .invokevirtual 44, mF_wipeOwners, 0, 2, 100, 0, [(0, 0)]),
  (4, 1, .iconst 0, 0, 0, 0, 0, 0, []),
  (5, 1, .istore_n 2, 0, 0, 0, 0, 0, []),
  (6, 1, .iload_n 2, 0, 0, 0, 0, 0, []),
  (7, 1, .aload_n 1, 0, 0, 0, 0, 0, []),
  (8, 3, .getfield 47, 7, 2, 0, 61, 0, []),
  (11, 3, .if_icmp .ge 15, 26, 0, 0, 0, 0, []),
  (14, 1, .aload_n 0, 0, 0, 0, 0, 0, []),
  (15, 1, .iload_n 2, 0, 0, 0, 0, 0, []),
  (16, 1, .aload_n 1, 0, 0, 0, 0, 0, []),
  (17, 3, .invokevirtual 52, mF_offer, 2, 2, 101, 0, [(0, 0)]),
  (20, 3, .iinc 2 1, 0, 0, 0, 0, 1, []),
  (23, 3, .goto (-17), 6, 0, 0, 0, 0, []),
  (26, 1, .aload_n 0, 0, 0, 0, 0, 0, []),
  (27, 1, .aload_n 1, 0, 0, 0, 0, 0, []),
  (28, 3, .invokevirtual 56, mF_addUp, 1, 2, 102, 0, [(0, 0)]),
  (31, 1, .return_, 0, 0, 0, 0, 0, [])]
theorem ckF_survey : cdF_survey.all (rowOK mF_survey) = true := by decide +kernel
def cdF_round : List Row := [
  (0, 1, .iconst 0, 0, 0, 0, 0, 0, []),
  (1, 1, .istore_n 2, 0, 0, 0, 0, 0, []),
  (2, 1, .aload_n 0, 0, 0, 0, 0, 0, []),
  (3, 3, .invokevirtual 44, mF_wipeOwners, 0, 2, 100, 0, [(0, 0)]),
  (6, 1, .iconst 0, 0, 0, 0, 0, 0, []),
  (7, 1, .istore_n 3, 0, 0, 0, 0, 0, []),
  (8, 1, .iload_n 3, 0, 0, 0, 0, 0, []),
  (9, 1, .aload_n 1, 0, 0, 0, 0, 0, []),
  (10, 3, .getfield 47, 7, 2, 0, 61, 0, []),
  (13, 3, .if_icmp .ge 53, 66, 0, 0, 0, 0, []),
  (16, 1, .aload_n 0, 0, 0, 0, 0, 0, []),
  (17, 3, .getfield 28, 2, 5, 2, 56, 0, []),
  (20, 1, .iload_n 3, 0, 0, 0, 0, 0, []),
  (21, 1, .iaload, 0, 0, 0, 0, 0, []),
  (22, 3, .ifCond .le 38, 60, 0, 0, 0, 0, []),
  (25, 1, .aload_n 1, 0, 0, 0, 0, 0, []),
  (26, 1, .iload_n 3, 0, 0, 0, 0, 0, []),
  (27, 1, .aload_n 0, 0, 0, 0, 0, 0, []),
  (28, 3, .getfield 34, 2, 7, 2, 58, 0, []),
  (31, 1, .iload_n 3, 0, 0, 0, 0, 0, []),
  (32, 1, .iaload, 0, 0, 0, 0, 0, []),
  (33, 1, .aload_n 0, 0, 0, 0, 0, 0, []),
  (34, 3, .getfield 37, 2, 8, 2, 59, 0, []),
  (37, 1, .iload_n 3, 0, 0, 0, 0, 0, []),
  (38, 1, .iaload, 0, 0, 0, 0, 0, []),
  (39, 1, .aload_n 0, 0, 0, 0, 0, 0, []),
  (40, 3, .getfield 28, 2, 5, 2, 56, 0, []),
  (43, 1, .iload_n 3, 0, 0, 0, 0, 0, []),
  (44, 1, .iaload, 0, 0, 0, 0, 0, []),
  (45, 3, .invokevirtual 60, mS_place, 4, 7, 103, 0, [(0, 1)]),
  (48, 3, .ifCond .eq 6, 54, 0, 0, 0, 0, []),
  (51, 3, .iinc 2 1, 0, 0, 0, 0, 1, []),
  (54, 1, .aload_n 0, 0, 0, 0, 0, 0, []),
  (55, 1, .iload_n 3, 0, 0, 0, 0, 0, []),
  (56, 1, .aload_n 1, 0, 0, 0, 0, 0, []),
  (57, 3, .invokevirtual 52, mF_offer, 2, 2, 101, 0, [(0, 0)]),
  (60, 3, .iinc 3 1, 0, 0, 0, 0, 1, []),
  (63, 3, .goto (-55), 8, 0, 0, 0, 0, []),
  (66, 1, .iconst 0, 0, 0, 0, 0, 0, []),
  (67, 1, .istore_n 3, 0, 0, 0, 0, 0, []),
  (68, 1, .iload_n 3, 0, 0, 0, 0, 0, []),
  (69, 1, .aload_n 1, 0, 0, 0, 0, 0, []),
  (70, 3, .getfield 47, 7, 2, 0, 61, 0, []),
  (73, 3, .if_icmp .ge 62, 135, 0, 0, 0, 0, []),
  (76, 1, .aload_n 0, 0, 0, 0, 0, 0, []),
  (77, 3, .getfield 28, 2, 5, 2, 56, 0, []),
  (80, 1, .iload_n 3, 0, 0, 0, 0, 0, []),
  (81, 1, .iaload, 0, 0, 0, 0, 0, []),
  (82, 3, .ifCond .ne 47, 129, 0, 0, 0, 0, []),
  (85, 1, .aload_n 0, 0, 0, 0, 0, 0, []),
  (86, 1, .iconst (-1), 0, 0, 0, 0, (-1), []),
  (87, 1, .aload_n 1, 0, 0, 0, 0, 0, []),
  (88, 3, .invokevirtual 64, mF_worstOf, 2, 2, 104, 0, [(0, 1)]),
  (91, 2, .istore 4, 0, 0, 0, 0, 0, []),
  (93, 2, .iload 4, 0, 0, 0, 0, 0, []),
  (95, 1, .iconst (-1), 0, 0, 0, 0, (-1), []),
  (96, 3, .if_icmp .eq 27, 123, 0, 0, 0, 0, []),
  (99, 1, .aload_n 1, 0, 0, 0, 0, 0, []),
  (100, 1, .iload_n 3, 0, 0, 0, 0, 0, []),
  (101, 1, .aload_n 1, 0, 0, 0, 0, 0, []),
  (102, 2, .iload 4, 0, 0, 0, 0, 0, []),
  (104, 3, .invokevirtual 68, mS_columnOf, 1, 7, 105, 0, [(0, 1)]),
  (107, 1, .aload_n 1, 0, 0, 0, 0, 0, []),
  (108, 2, .iload 4, 0, 0, 0, 0, 0, []),
  (110, 3, .invokevirtual 72, mS_rowOf, 1, 7, 106, 0, [(0, 1)]),
  (113, 1, .iconst 1, 0, 0, 0, 0, 1, []),
  (114, 3, .invokevirtual 60, mS_place, 4, 7, 103, 0, [(0, 1)]),
  (117, 3, .ifCond .eq 6, 123, 0, 0, 0, 0, []),
  (120, 3, .iinc 2 1, 0, 0, 0, 0, 1, []),
  (123, 1, .aload_n 0, 0, 0, 0, 0, 0, []),
  (124, 1, .iload_n 3, 0, 0, 0, 0, 0, []),
  (125, 1, .aload_n 1, 0, 0, 0, 0, 0, []),
  (126, 3, .invokevirtual 52, mF_offer, 2, 2, 101, 0, [(0, 0)]),
  (129, 3, .iinc 3 1, 0, 0, 0, 0, 1, []),
  (132, 3, .goto (-64), 68, 0, 0, 0, 0, []),
  (135, 1, .aload_n 0, 0, 0, 0, 0, 0, []),
  (136, 1, .aload_n 1, 0, 0, 0, 0, 0, []),
  (137, 3, .invokevirtual 56, mF_addUp, 1, 2, 102, 0, [(0, 0)]),
  (140, 1, .iload_n 2, 0, 0, 0, 0, 0, []),
  (141, 1, .ireturn, 0, 0, 0, 0, 0, [])]
theorem ckF_round_0 : ((cdF_round.drop 0).take 60).all (rowOK mF_round) = true := by decide +kernel
theorem ckF_round_60 : ((cdF_round.drop 60).take 60).all (rowOK mF_round) = true := by decide +kernel
theorem ckF_round : cdF_round.all (rowOK mF_round) = true := by
  have h : (cdF_round.drop 0).all (rowOK mF_round) = true := (all_cut 60 ckF_round_0 (by rw [List.drop_drop]; exact (all_cut 60 ckF_round_60 (by rw [List.drop_drop]; exact (by rw [show cdF_round.drop 120 = [] from rfl]; rfl)))))
  exact h
def cdF_wipeOwners : List Row := [
  (0, 1, .aload_n 0, 0, 0, 0, 0, 0, []),
  (1, 3, .getfield 9, 2, 0, 2, 51, 0, []),
  (4, 1, .iconst (-1), 0, 0, 0, 0, (-1), []),
  (5, 3, .invokestatic 75, mJa_fillI, 2, 0, 107, 0, [(0, 0)]),
  (8, 1, .aload_n 0, 0, 0, 0, 0, 0, []),
  (9, 3, .getfield 15, 2, 1, 2, 52, 0, []),
  (12, 1, .lconst 1, 1, 0, 0, 0, 0, []),
  (13, 3, .invokestatic 81, mJa_fillL, 2, 0, 108, 0, [(0, 0)]),
  (16, 1, .aload_n 0, 0, 0, 0, 0, 0, []),
  (17, 3, .getfield 19, 2, 2, 2, 53, 0, []),
  (20, 1, .lconst 0, 0, 0, 0, 0, 0, []),
  (21, 3, .invokestatic 81, mJa_fillL, 2, 0, 108, 0, [(0, 0)]),
  (24, 1, .return_, 0, 0, 0, 0, 0, [])]
theorem ckF_wipeOwners : cdF_wipeOwners.all (rowOK mF_wipeOwners) = true := by decide +kernel
def cdF_offer : List Row := [
  (0, 1, .aload_n 2, 0, 0, 0, 0, 0, []),
  (1, 3, .getfield 84, 7, 7, 2, 62, 0, []),
  (4, 1, .iload_n 1, 0, 0, 0, 0, 0, []),
  (5, 1, .iaload, 0, 0, 0, 0, 0, []),
  (6, 1, .i2l, 0, 0, 0, 0, 0, []),
  (7, 1, .lstore_n 3, 0, 0, 0, 0, 0, []),
  (8, 1, .lload_n 3, 0, 0, 0, 0, 0, []),
  (9, 1, .lload_n 3, 0, 0, 0, 0, 0, []),
  (10, 1, .lmul, 0, 0, 0, 0, 0, []),
  (11, 2, .lstore 5, 0, 0, 0, 0, 0, []),
  (13, 1, .iconst 0, 0, 0, 0, 0, 0, []),
  (14, 2, .istore 7, 0, 0, 0, 0, 0, []),
  (16, 1, .iconst 0, 0, 0, 0, 0, 0, []),
  (17, 2, .istore 8, 0, 0, 0, 0, 0, []),
  (19, 2, .iload 8, 0, 0, 0, 0, 0, []),
  (21, 1, .aload_n 2, 0, 0, 0, 0, 0, []),
  (22, 3, .getfield 87, 7, 1, 0, 63, 0, []),
  (25, 3, .if_icmp .ge 155, 180, 0, 0, 0, 0, []),
  (28, 2, .iload 8, 0, 0, 0, 0, 0, []),
  (30, 1, .i2l, 0, 0, 0, 0, 0, []),
  (31, 1, .lload_n 3, 0, 0, 0, 0, 0, []),
  (32, 1, .lmul, 0, 0, 0, 0, 0, []),
  (33, 1, .aload_n 2, 0, 0, 0, 0, 0, []),
  (34, 3, .getfield 90, 7, 6, 2, 64, 0, []),
  (37, 1, .iload_n 1, 0, 0, 0, 0, 0, []),
  (38, 1, .iaload, 0, 0, 0, 0, 0, []),
  (39, 1, .i2l, 0, 0, 0, 0, 0, []),
  (40, 1, .lsub, 0, 0, 0, 0, 0, []),
  (41, 2, .lstore 9, 0, 0, 0, 0, 0, []),
  (43, 2, .lload 9, 0, 0, 0, 0, 0, []),
  (45, 2, .lload 9, 0, 0, 0, 0, 0, []),
  (47, 1, .lmul, 0, 0, 0, 0, 0, []),
  (48, 2, .lstore 11, 0, 0, 0, 0, 0, []),
  (50, 1, .aload_n 2, 0, 0, 0, 0, 0, []),
  (51, 3, .getfield 93, 7, 5, 2, 65, 0, []),
  (54, 1, .iload_n 1, 0, 0, 0, 0, 0, []),
  (55, 1, .iaload, 0, 0, 0, 0, 0, []),
  (56, 1, .ineg, 0, 0, 0, 0, 0, []),
  (57, 1, .i2l, 0, 0, 0, 0, 0, []),
  (58, 2, .lstore 13, 0, 0, 0, 0, 0, []),
  (60, 1, .iconst 0, 0, 0, 0, 0, 0, []),
  (61, 2, .istore 15, 0, 0, 0, 0, 0, []),
  (63, 2, .iload 15, 0, 0, 0, 0, 0, []),
  (65, 1, .aload_n 2, 0, 0, 0, 0, 0, []),
  (66, 3, .getfield 96, 7, 0, 0, 66, 0, []),
  (69, 3, .if_icmp .ge 105, 174, 0, 0, 0, 0, []),
  (72, 2, .lload 13, 0, 0, 0, 0, 0, []),
  (74, 2, .lload 13, 0, 0, 0, 0, 0, []),
  (76, 1, .lmul, 0, 0, 0, 0, 0, []),
  (77, 2, .lload 11, 0, 0, 0, 0, 0, []),
  (79, 1, .ladd, 0, 0, 0, 0, 0, []),
  (80, 2, .lstore 16, 0, 0, 0, 0, 0, []),
  (82, 2, .lload 16, 0, 0, 0, 0, 0, []),
  (84, 1, .aload_n 0, 0, 0, 0, 0, 0, []),
  (85, 3, .getfield 19, 2, 2, 2, 53, 0, []),
  (88, 2, .iload 7, 0, 0, 0, 0, 0, []),
  (90, 1, .laload, 0, 0, 0, 0, 0, []),
  (91, 1, .lmul, 0, 0, 0, 0, 0, []),
  (92, 2, .lstore 18, 0, 0, 0, 0, 0, []),
  (94, 1, .aload_n 0, 0, 0, 0, 0, 0, []),
  (95, 3, .getfield 15, 2, 1, 2, 52, 0, []),
  (98, 2, .iload 7, 0, 0, 0, 0, 0, []),
  (100, 1, .laload, 0, 0, 0, 0, 0, []),
  (101, 2, .lload 5, 0, 0, 0, 0, 0, []),
  (103, 1, .lmul, 0, 0, 0, 0, 0, []),
  (104, 2, .lstore 20, 0, 0, 0, 0, 0, []),
  (106, 2, .lload 18, 0, 0, 0, 0, 0, []),
  (108, 2, .lload 20, 0, 0, 0, 0, 0, []),
  (110, 1, .lcmp, 0, 0, 0, 0, 0, []),
  (111, 3, .ifCond .lt 22, 133, 0, 0, 0, 0, []),
  (114, 2, .lload 18, 0, 0, 0, 0, 0, []),
  (116, 2, .lload 20, 0, 0, 0, 0, 0, []),
  (118, 1, .lcmp, 0, 0, 0, 0, 0, []),
  (119, 3, .ifCond .ne 40, 159, 0, 0, 0, 0, []),
  (122, 1, .iload_n 1, 0, 0, 0, 0, 0, []),
  (123, 1, .aload_n 0, 0, 0, 0, 0, 0, []),
  (124, 3, .getfield 9, 2, 0, 2, 51, 0, []),
  (127, 2, .iload 7, 0, 0, 0, 0, 0, []),
  (129, 1, .iaload, 0, 0, 0, 0, 0, []),
  (130, 3, .if_icmp .ge 29, 159, 0, 0, 0, 0, []),
  (133, 1, .aload_n 0, 0, 0, 0, 0, 0, []),
  (134, 3, .getfield 9, 2, 0, 2, 51, 0, []),
  (137, 2, .iload 7, 0, 0, 0, 0, 0, []),
  (139, 1, .iload_n 1, 0, 0, 0, 0, 0, []),
  (140, 1, .iastore, 0, 0, 0, 0, 0, []),
  (141, 1, .aload_n 0, 0, 0, 0, 0, 0, []),
  (142, 3, .getfield 15, 2, 1, 2, 52, 0, []),
  (145, 2, .iload 7, 0, 0, 0, 0, 0, []),
  (147, 2, .lload 16, 0, 0, 0, 0, 0, []),
  (149, 1, .lastore, 0, 0, 0, 0, 0, []),
  (150, 1, .aload_n 0, 0, 0, 0, 0, 0, []),
  (151, 3, .getfield 19, 2, 2, 2, 53, 0, []),
  (154, 2, .iload 7, 0, 0, 0, 0, 0, []),
  (156, 2, .lload 5, 0, 0, 0, 0, 0, []),
  (158, 1, .lastore, 0, 0, 0, 0, 0, []),
  (159, 2, .lload 13, 0, 0, 0, 0, 0, []),
  (161, 1, .lload_n 3, 0, 0, 0, 0, 0, []),
  (162, 1, .ladd, 0, 0, 0, 0, 0, []),
  (163, 2, .lstore 13, 0, 0, 0, 0, 0, []),
  (165, 3, .iinc 7 1, 0, 0, 0, 0, 1, []),
  (168, 3, .iinc 15 1, 0, 0, 0, 0, 1, []),
  (171, 3, .goto (-108), 63, 0, 0, 0, 0, []),
  (174, 3, .iinc 8 1, 0, 0, 0, 0, 1, []),
  (177, 3, .goto (-158), 19, 0, 0, 0, 0, []),
  (180, 1, .return_, 0, 0, 0, 0, 0, [])]
theorem ckF_offer_0 : ((cdF_offer.drop 0).take 60).all (rowOK mF_offer) = true := by decide +kernel
theorem ckF_offer_60 : ((cdF_offer.drop 60).take 60).all (rowOK mF_offer) = true := by decide +kernel
theorem ckF_offer : cdF_offer.all (rowOK mF_offer) = true := by
  have h : (cdF_offer.drop 0).all (rowOK mF_offer) = true := (all_cut 60 ckF_offer_0 (by rw [List.drop_drop]; exact (all_cut 60 ckF_offer_60 (by rw [List.drop_drop]; exact (by rw [show cdF_offer.drop 120 = [] from rfl]; rfl)))))
  exact h
def cdF_addUp : List Row := [
  (0, 1, .aload_n 0, 0, 0, 0, 0, 0, []),
  (1, 1, .iconst 0, 0, 0, 0, 0, 0, []),
  (2, 3, .putfield 40, 2, 9, 0, 60, 0, []),
  (5, 1, .aload_n 0, 0, 0, 0, 0, 0, []),
  (6, 3, .getfield 25, 2, 4, 2, 55, 0, []),
  (9, 1, .iconst 0, 0, 0, 0, 0, 0, []),
  (10, 3, .invokestatic 75, mJa_fillI, 2, 0, 107, 0, [(0, 0)]),
  (13, 1, .aload_n 0, 0, 0, 0, 0, 0, []),
  (14, 3, .getfield 28, 2, 5, 2, 56, 0, []),
  (17, 1, .iconst 0, 0, 0, 0, 0, 0, []),
  (18, 3, .invokestatic 75, mJa_fillI, 2, 0, 107, 0, [(0, 0)]),
  (21, 1, .aload_n 0, 0, 0, 0, 0, 0, []),
  (22, 3, .getfield 31, 2, 6, 2, 57, 0, []),
  (25, 1, .iconst 0, 0, 0, 0, 0, 0, []),
  (26, 3, .invokestatic 75, mJa_fillI, 2, 0, 107, 0, [(0, 0)]),
  (29, 1, .aload_n 0, 0, 0, 0, 0, 0, []),
  (30, 3, .getfield 34, 2, 7, 2, 58, 0, []),
  (33, 1, .iconst 0, 0, 0, 0, 0, 0, []),
  (34, 3, .invokestatic 75, mJa_fillI, 2, 0, 107, 0, [(0, 0)]),
  (37, 1, .aload_n 0, 0, 0, 0, 0, 0, []),
  (38, 3, .getfield 37, 2, 8, 2, 59, 0, []),
  (41, 1, .iconst 0, 0, 0, 0, 0, 0, []),
  (42, 3, .invokestatic 75, mJa_fillI, 2, 0, 107, 0, [(0, 0)]),
  (45, 1, .iconst 0, 0, 0, 0, 0, 0, []),
  (46, 1, .istore_n 2, 0, 0, 0, 0, 0, []),
  (47, 1, .iconst 0, 0, 0, 0, 0, 0, []),
  (48, 1, .istore_n 3, 0, 0, 0, 0, 0, []),
  (49, 1, .iload_n 3, 0, 0, 0, 0, 0, []),
  (50, 1, .aload_n 1, 0, 0, 0, 0, 0, []),
  (51, 3, .getfield 87, 7, 1, 0, 63, 0, []),
  (54, 3, .if_icmp .ge 44, 98, 0, 0, 0, 0, []),
  (57, 1, .iconst 0, 0, 0, 0, 0, 0, []),
  (58, 2, .istore 4, 0, 0, 0, 0, 0, []),
  (60, 2, .iload 4, 0, 0, 0, 0, 0, []),
  (62, 1, .aload_n 1, 0, 0, 0, 0, 0, []),
  (63, 3, .getfield 96, 7, 0, 0, 66, 0, []),
  (66, 3, .if_icmp .ge 26, 92, 0, 0, 0, 0, []),
  (69, 1, .aload_n 0, 0, 0, 0, 0, 0, []),
  (70, 1, .iload_n 2, 0, 0, 0, 0, 0, []),
  (71, 2, .iload 4, 0, 0, 0, 0, 0, []),
  (73, 1, .iload_n 3, 0, 0, 0, 0, 0, []),
  (74, 1, .aload_n 1, 0, 0, 0, 0, 0, []),
  (75, 3, .getfield 99, 7, 4, 2, 67, 0, []),
  (78, 1, .iload_n 2, 0, 0, 0, 0, 0, []),
  (79, 1, .iaload, 0, 0, 0, 0, 0, []),
  (80, 3, .invokevirtual 102, mF_addCell, 4, 2, 109, 0, [(0, 0)]),
  (83, 3, .iinc 2 1, 0, 0, 0, 0, 1, []),
  (86, 3, .iinc 4 1, 0, 0, 0, 0, 1, []),
  (89, 3, .goto (-29), 60, 0, 0, 0, 0, []),
  (92, 3, .iinc 3 1, 0, 0, 0, 0, 1, []),
  (95, 3, .goto (-46), 49, 0, 0, 0, 0, []),
  (98, 1, .return_, 0, 0, 0, 0, 0, [])]
theorem ckF_addUp : cdF_addUp.all (rowOK mF_addUp) = true := by decide +kernel
def cdF_addCell : List Row := [
  (0, 1, .aload_n 0, 0, 0, 0, 0, 0, []),
  (1, 3, .getfield 9, 2, 0, 2, 51, 0, []),
  (4, 1, .iload_n 1, 0, 0, 0, 0, 0, []),
  (5, 1, .iaload, 0, 0, 0, 0, 0, []),
  (6, 2, .istore 5, 0, 0, 0, 0, 0, []),
  (8, 2, .iload 5, 0, 0, 0, 0, 0, []),
  (10, 1, .iconst (-1), 0, 0, 0, 0, (-1), []),
  (11, 3, .if_icmp .ne 11, 22, 0, 0, 0, 0, []),
  (14, 1, .aload_n 0, 0, 0, 0, 0, 0, []),
  (15, 3, .getfield 22, 2, 3, 2, 54, 0, []),
  (18, 1, .iload_n 1, 0, 0, 0, 0, 0, []),
  (19, 1, .iconst 0, 0, 0, 0, 0, 0, []),
  (20, 1, .iastore, 0, 0, 0, 0, 0, []),
  (21, 1, .return_, 0, 0, 0, 0, 0, []),
  (22, 2, .iload 4, 0, 0, 0, 0, 0, []),
  (24, 3, .ifCond .ne 7, 31, 0, 0, 0, 0, []),
  (27, 1, .iconst 0, 0, 0, 0, 0, 0, []),
  (28, 3, .goto 20, 48, 0, 0, 0, 0, []),
  (31, 2, .iload 4, 0, 0, 0, 0, 0, []),
  (33, 1, .aload_n 0, 0, 0, 0, 0, 0, []),
  (34, 3, .getfield 15, 2, 1, 2, 52, 0, []),
  (37, 1, .iload_n 1, 0, 0, 0, 0, 0, []),
  (38, 1, .laload, 0, 0, 0, 0, 0, []),
  (39, 1, .aload_n 0, 0, 0, 0, 0, 0, []),
  (40, 3, .getfield 19, 2, 2, 2, 53, 0, []),
  (43, 1, .iload_n 1, 0, 0, 0, 0, 0, []),
  (44, 1, .laload, 0, 0, 0, 0, 0, []),
  (45, 3, .invokestatic 106, mC_price, 3, 1, 110, 0, [(0, 1)]),
  (48, 2, .istore 6, 0, 0, 0, 0, 0, []),
  (50, 1, .aload_n 0, 0, 0, 0, 0, 0, []),
  (51, 3, .getfield 22, 2, 3, 2, 54, 0, []),
  (54, 1, .iload_n 1, 0, 0, 0, 0, 0, []),
  (55, 2, .iload 6, 0, 0, 0, 0, 0, []),
  (57, 1, .iastore, 0, 0, 0, 0, 0, []),
  (58, 1, .aload_n 0, 0, 0, 0, 0, 0, []),
  (59, 1, .dup, 0, 0, 0, 0, 0, []),
  (60, 3, .getfield 40, 2, 9, 0, 60, 0, []),
  (63, 2, .iload 6, 0, 0, 0, 0, 0, []),
  (65, 1, .iadd, 0, 0, 0, 0, 0, []),
  (66, 3, .putfield 40, 2, 9, 0, 60, 0, []),
  (69, 1, .aload_n 0, 0, 0, 0, 0, 0, []),
  (70, 3, .getfield 25, 2, 4, 2, 55, 0, []),
  (73, 2, .iload 5, 0, 0, 0, 0, 0, []),
  (75, 1, .dup2, 0, 0, 0, 0, 0, []),
  (76, 1, .iaload, 0, 0, 0, 0, 0, []),
  (77, 1, .iconst 1, 0, 0, 0, 0, 1, []),
  (78, 1, .iadd, 0, 0, 0, 0, 0, []),
  (79, 1, .iastore, 0, 0, 0, 0, 0, []),
  (80, 1, .aload_n 0, 0, 0, 0, 0, 0, []),
  (81, 3, .getfield 28, 2, 5, 2, 56, 0, []),
  (84, 2, .iload 5, 0, 0, 0, 0, 0, []),
  (86, 1, .dup2, 0, 0, 0, 0, 0, []),
  (87, 1, .iaload, 0, 0, 0, 0, 0, []),
  (88, 2, .iload 4, 0, 0, 0, 0, 0, []),
  (90, 1, .iadd, 0, 0, 0, 0, 0, []),
  (91, 1, .iastore, 0, 0, 0, 0, 0, []),
  (92, 1, .aload_n 0, 0, 0, 0, 0, 0, []),
  (93, 3, .getfield 31, 2, 6, 2, 57, 0, []),
  (96, 2, .iload 5, 0, 0, 0, 0, 0, []),
  (98, 1, .dup2, 0, 0, 0, 0, 0, []),
  (99, 1, .iaload, 0, 0, 0, 0, 0, []),
  (100, 2, .iload 6, 0, 0, 0, 0, 0, []),
  (102, 1, .iadd, 0, 0, 0, 0, 0, []),
  (103, 1, .iastore, 0, 0, 0, 0, 0, []),
  (104, 1, .aload_n 0, 0, 0, 0, 0, 0, []),
  (105, 3, .getfield 34, 2, 7, 2, 58, 0, []),
  (108, 2, .iload 5, 0, 0, 0, 0, 0, []),
  (110, 1, .dup2, 0, 0, 0, 0, 0, []),
  (111, 1, .iaload, 0, 0, 0, 0, 0, []),
  (112, 2, .iload 4, 0, 0, 0, 0, 0, []),
  (114, 1, .iload_n 2, 0, 0, 0, 0, 0, []),
  (115, 1, .imul, 0, 0, 0, 0, 0, []),
  (116, 1, .iadd, 0, 0, 0, 0, 0, []),
  (117, 1, .iastore, 0, 0, 0, 0, 0, []),
  (118, 1, .aload_n 0, 0, 0, 0, 0, 0, []),
  (119, 3, .getfield 37, 2, 8, 2, 59, 0, []),
  (122, 2, .iload 5, 0, 0, 0, 0, 0, []),
  (124, 1, .dup2, 0, 0, 0, 0, 0, []),
  (125, 1, .iaload, 0, 0, 0, 0, 0, []),
  (126, 2, .iload 4, 0, 0, 0, 0, 0, []),
  (128, 1, .iload_n 3, 0, 0, 0, 0, 0, []),
  (129, 1, .imul, 0, 0, 0, 0, 0, []),
  (130, 1, .iadd, 0, 0, 0, 0, 0, []),
  (131, 1, .iastore, 0, 0, 0, 0, 0, []),
  (132, 1, .return_, 0, 0, 0, 0, 0, [])]
theorem ckF_addCell_0 : ((cdF_addCell.drop 0).take 60).all (rowOK mF_addCell) = true := by decide +kernel
theorem ckF_addCell_60 : ((cdF_addCell.drop 60).take 60).all (rowOK mF_addCell) = true := by decide +kernel
theorem ckF_addCell : cdF_addCell.all (rowOK mF_addCell) = true := by
  have h : (cdF_addCell.drop 0).all (rowOK mF_addCell) = true := (all_cut 60 ckF_addCell_0 (by rw [List.drop_drop]; exact (all_cut 60 ckF_addCell_60 (by rw [List.drop_drop]; exact (by rw [show cdF_addCell.drop 120 = [] from rfl]; rfl)))))
  exact h
def cdF_worstOf : List Row := [
  (0, 1, .iconst (-1), 0, 0, 0, 0, (-1), []),
  (1, 1, .istore_n 3, 0, 0, 0, 0, 0, []),
  (2, 1, .lconst 0, 0, 0, 0, 0, 0, []),
  (3, 2, .lstore 4, 0, 0, 0, 0, 0, []),
  (5, 1, .lconst 1, 1, 0, 0, 0, 0, []),
  (6, 2, .lstore 6, 0, 0, 0, 0, 0, []),
  (8, 1, .iconst 0, 0, 0, 0, 0, 0, []),
  (9, 2, .istore 8, 0, 0, 0, 0, 0, []),
  (11, 2, .iload 8, 0, 0, 0, 0, 0, []),
  (13, 1, .aload_n 2, 0, 0, 0, 0, 0, []),
  (14, 3, .invokevirtual 110, mS_size, 0, 7, 111, 0, [(0, 1)]),
  (17, 3, .if_icmp .ge 92, 109, 0, 0, 0, 0, []),
  (20, 1, .aload_n 0, 0, 0, 0, 0, 0, []),
  (21, 3, .getfield 9, 2, 0, 2, 51, 0, []),
  (24, 2, .iload 8, 0, 0, 0, 0, 0, []),
  (26, 1, .iaload, 0, 0, 0, 0, 0, []),
  (27, 1, .iconst (-1), 0, 0, 0, 0, (-1), []),
  (28, 3, .if_icmp .eq 75, 103, 0, 0, 0, 0, []),
  (31, 1, .iload_n 1, 0, 0, 0, 0, 0, []),
  (32, 1, .iconst (-1), 0, 0, 0, 0, (-1), []),
  (33, 3, .if_icmp .eq 17, 50, 0, 0, 0, 0, []),
  (36, 1, .aload_n 0, 0, 0, 0, 0, 0, []),
  (37, 3, .getfield 9, 2, 0, 2, 51, 0, []),
  (40, 2, .iload 8, 0, 0, 0, 0, 0, []),
  (42, 1, .iaload, 0, 0, 0, 0, 0, []),
  (43, 1, .iload_n 1, 0, 0, 0, 0, 0, []),
  (44, 3, .if_icmp .eq 6, 50, 0, 0, 0, 0, []),
  (47, 3, .goto 56, 103, 0, 0, 0, 0, []),
  (50, 1, .aload_n 2, 0, 0, 0, 0, 0, []),
  (51, 3, .getfield 99, 7, 4, 2, 67, 0, []),
  (54, 2, .iload 8, 0, 0, 0, 0, 0, []),
  (56, 1, .iaload, 0, 0, 0, 0, 0, []),
  (57, 1, .i2l, 0, 0, 0, 0, 0, []),
  (58, 1, .aload_n 0, 0, 0, 0, 0, 0, []),
  (59, 3, .getfield 15, 2, 1, 2, 52, 0, []),
  (62, 2, .iload 8, 0, 0, 0, 0, 0, []),
  (64, 1, .laload, 0, 0, 0, 0, 0, []),
  (65, 1, .lmul, 0, 0, 0, 0, 0, []),
  (66, 2, .lstore 9, 0, 0, 0, 0, 0, []),
  (68, 2, .lload 9, 0, 0, 0, 0, 0, []),
  (70, 2, .lload 6, 0, 0, 0, 0, 0, []),
  (72, 1, .lmul, 0, 0, 0, 0, 0, []),
  (73, 2, .lload 4, 0, 0, 0, 0, 0, []),
  (75, 1, .aload_n 0, 0, 0, 0, 0, 0, []),
  (76, 3, .getfield 19, 2, 2, 2, 53, 0, []),
  (79, 2, .iload 8, 0, 0, 0, 0, 0, []),
  (81, 1, .laload, 0, 0, 0, 0, 0, []),
  (82, 1, .lmul, 0, 0, 0, 0, 0, []),
  (83, 1, .lcmp, 0, 0, 0, 0, 0, []),
  (84, 3, .ifCond .le 19, 103, 0, 0, 0, 0, []),
  (87, 2, .iload 8, 0, 0, 0, 0, 0, []),
  (89, 1, .istore_n 3, 0, 0, 0, 0, 0, []),
  (90, 2, .lload 9, 0, 0, 0, 0, 0, []),
  (92, 2, .lstore 4, 0, 0, 0, 0, 0, []),
  (94, 1, .aload_n 0, 0, 0, 0, 0, 0, []),
  (95, 3, .getfield 19, 2, 2, 2, 53, 0, []),
  (98, 2, .iload 8, 0, 0, 0, 0, 0, []),
  (100, 1, .laload, 0, 0, 0, 0, 0, []),
  (101, 2, .lstore 6, 0, 0, 0, 0, 0, []),
  (103, 3, .iinc 8 1, 0, 0, 0, 0, 1, []),
  (106, 3, .goto (-95), 11, 0, 0, 0, 0, []),
  (109, 1, .iload_n 3, 0, 0, 0, 0, 0, []),
  (110, 1, .ireturn, 0, 0, 0, 0, 0, [])]
theorem ckF_worstOf : cdF_worstOf.all (rowOK mF_worstOf) = true := by decide +kernel
def cdF_farthestOf : List Row := [
  (0, 1, .iconst (-1), 0, 0, 0, 0, (-1), []),
  (1, 1, .istore_n 3, 0, 0, 0, 0, 0, []),
  (2, 1, .iconst 0, 0, 0, 0, 0, 0, []),
  (3, 2, .istore 4, 0, 0, 0, 0, 0, []),
  (5, 2, .iload 4, 0, 0, 0, 0, 0, []),
  (7, 1, .aload_n 2, 0, 0, 0, 0, 0, []),
  (8, 3, .invokevirtual 110, mS_size, 0, 7, 111, 0, [(0, 1)]),
  (11, 3, .if_icmp .ge 45, 56, 0, 0, 0, 0, []),
  (14, 1, .aload_n 0, 0, 0, 0, 0, 0, []),
  (15, 3, .getfield 9, 2, 0, 2, 51, 0, []),
  (18, 2, .iload 4, 0, 0, 0, 0, 0, []),
  (20, 1, .iaload, 0, 0, 0, 0, 0, []),
  (21, 1, .iload_n 1, 0, 0, 0, 0, 0, []),
  (22, 3, .if_icmp .ne 28, 50, 0, 0, 0, 0, []),
  (25, 1, .iload_n 3, 0, 0, 0, 0, 0, []),
  (26, 1, .iconst (-1), 0, 0, 0, 0, (-1), []),
  (27, 3, .if_icmp .eq 20, 47, 0, 0, 0, 0, []),
  (30, 1, .aload_n 0, 0, 0, 0, 0, 0, []),
  (31, 3, .getfield 15, 2, 1, 2, 52, 0, []),
  (34, 2, .iload 4, 0, 0, 0, 0, 0, []),
  (36, 1, .laload, 0, 0, 0, 0, 0, []),
  (37, 1, .aload_n 0, 0, 0, 0, 0, 0, []),
  (38, 3, .getfield 15, 2, 1, 2, 52, 0, []),
  (41, 1, .iload_n 3, 0, 0, 0, 0, 0, []),
  (42, 1, .laload, 0, 0, 0, 0, 0, []),
  (43, 1, .lcmp, 0, 0, 0, 0, 0, []),
  (44, 3, .ifCond .le 6, 50, 0, 0, 0, 0, []),
  (47, 2, .iload 4, 0, 0, 0, 0, 0, []),
  (49, 1, .istore_n 3, 0, 0, 0, 0, 0, []),
  (50, 3, .iinc 4 1, 0, 0, 0, 0, 1, []),
  (53, 3, .goto (-48), 5, 0, 0, 0, 0, []),
  (56, 1, .iload_n 3, 0, 0, 0, 0, 0, []),
  (57, 1, .ireturn, 0, 0, 0, 0, 0, [])]
theorem ckF_farthestOf : cdF_farthestOf.all (rowOK mF_farthestOf) = true := by decide +kernel
def cdF_cellsAtEdge : List Row := [
  (0, 1, .iconst 0, 0, 0, 0, 0, 0, []),
  (1, 1, .istore_n 3, 0, 0, 0, 0, 0, []),
  (2, 1, .iconst 0, 0, 0, 0, 0, 0, []),
  (3, 2, .istore 4, 0, 0, 0, 0, 0, []),
  (5, 2, .iload 4, 0, 0, 0, 0, 0, []),
  (7, 1, .aload_n 2, 0, 0, 0, 0, 0, []),
  (8, 3, .getfield 87, 7, 1, 0, 63, 0, []),
  (11, 3, .if_icmp .ge 91, 102, 0, 0, 0, 0, []),
  (14, 1, .iconst 0, 0, 0, 0, 0, 0, []),
  (15, 2, .istore 5, 0, 0, 0, 0, 0, []),
  (17, 2, .iload 5, 0, 0, 0, 0, 0, []),
  (19, 1, .aload_n 2, 0, 0, 0, 0, 0, []),
  (20, 3, .getfield 96, 7, 0, 0, 66, 0, []),
  (23, 3, .if_icmp .ge 73, 96, 0, 0, 0, 0, []),
  (26, 2, .iload 5, 0, 0, 0, 0, 0, []),
  (28, 3, .ifCond .eq 30, 58, 0, 0, 0, 0, []),
  (31, 2, .iload 4, 0, 0, 0, 0, 0, []),
  (33, 3, .ifCond .eq 25, 58, 0, 0, 0, 0, []),
  (36, 2, .iload 5, 0, 0, 0, 0, 0, []),
  (38, 1, .aload_n 2, 0, 0, 0, 0, 0, []),
  (39, 3, .getfield 96, 7, 0, 0, 66, 0, []),
  (42, 1, .iconst 1, 0, 0, 0, 0, 1, []),
  (43, 1, .isub, 0, 0, 0, 0, 0, []),
  (44, 3, .if_icmp .eq 14, 58, 0, 0, 0, 0, []),
  (47, 2, .iload 4, 0, 0, 0, 0, 0, []),
  (49, 1, .aload_n 2, 0, 0, 0, 0, 0, []),
  (50, 3, .getfield 87, 7, 1, 0, 63, 0, []),
  (53, 1, .iconst 1, 0, 0, 0, 0, 1, []),
  (54, 1, .isub, 0, 0, 0, 0, 0, []),
  (55, 3, .if_icmp .ne 7, 62, 0, 0, 0, 0, []),
  (58, 1, .iconst 1, 0, 0, 0, 0, 1, []),
  (59, 3, .goto 4, 63, 0, 0, 0, 0, []),
  (62, 1, .iconst 0, 0, 0, 0, 0, 0, []),
  (63, 2, .istore 6, 0, 0, 0, 0, 0, []),
  (65, 2, .iload 6, 0, 0, 0, 0, 0, []),
  (67, 3, .ifCond .eq 23, 90, 0, 0, 0, 0, []),
  (70, 1, .aload_n 0, 0, 0, 0, 0, 0, []),
  (71, 3, .getfield 9, 2, 0, 2, 51, 0, []),
  (74, 1, .aload_n 2, 0, 0, 0, 0, 0, []),
  (75, 2, .iload 5, 0, 0, 0, 0, 0, []),
  (77, 2, .iload 4, 0, 0, 0, 0, 0, []),
  (79, 3, .invokevirtual 114, mS_numberOf, 2, 7, 112, 0, [(0, 1)]),
  (82, 1, .iaload, 0, 0, 0, 0, 0, []),
  (83, 1, .iload_n 1, 0, 0, 0, 0, 0, []),
  (84, 3, .if_icmp .ne 6, 90, 0, 0, 0, 0, []),
  (87, 3, .iinc 3 1, 0, 0, 0, 0, 1, []),
  (90, 3, .iinc 5 1, 0, 0, 0, 0, 1, []),
  (93, 3, .goto (-76), 17, 0, 0, 0, 0, []),
  (96, 3, .iinc 4 1, 0, 0, 0, 0, 1, []),
  (99, 3, .goto (-94), 5, 0, 0, 0, 0, []),
  (102, 1, .iload_n 3, 0, 0, 0, 0, 0, []),
  (103, 1, .ireturn, 0, 0, 0, 0, 0, [])]
theorem ckF_cellsAtEdge : cdF_cellsAtEdge.all (rowOK mF_cellsAtEdge) = true := by decide +kernel
def cdF_ownsShade : List Row := [
  (0, 1, .iconst 0, 0, 0, 0, 0, 0, []),
  (1, 2, .istore 4, 0, 0, 0, 0, 0, []),
  (3, 2, .iload 4, 0, 0, 0, 0, 0, []),
  (5, 1, .aload_n 3, 0, 0, 0, 0, 0, []),
  (6, 3, .invokevirtual 110, mS_size, 0, 7, 111, 0, [(0, 1)]),
  (9, 3, .if_icmp .ge 33, 42, 0, 0, 0, 0, []),
  (12, 1, .aload_n 0, 0, 0, 0, 0, 0, []),
  (13, 3, .getfield 9, 2, 0, 2, 51, 0, []),
  (16, 2, .iload 4, 0, 0, 0, 0, 0, []),
  (18, 1, .iaload, 0, 0, 0, 0, 0, []),
  (19, 1, .iload_n 1, 0, 0, 0, 0, 0, []),
  (20, 3, .if_icmp .ne 16, 36, 0, 0, 0, 0, []),
  (23, 1, .aload_n 3, 0, 0, 0, 0, 0, []),
  (24, 3, .getfield 99, 7, 4, 2, 67, 0, []),
  (27, 2, .iload 4, 0, 0, 0, 0, 0, []),
  (29, 1, .iaload, 0, 0, 0, 0, 0, []),
  (30, 1, .iload_n 2, 0, 0, 0, 0, 0, []),
  (31, 3, .if_icmp .ne 5, 36, 0, 0, 0, 0, []),
  (34, 1, .iconst 1, 0, 0, 0, 0, 1, []),
  (35, 1, .ireturn, 0, 0, 1, 0, 0, []),
  (36, 3, .iinc 4 1, 0, 0, 0, 0, 1, []),
  (39, 3, .goto (-36), 3, 0, 0, 0, 0, []),
  (42, 1, .iconst 0, 0, 0, 0, 0, 0, []),
  (43, 1, .ireturn, 0, 0, 1, 0, 0, [])]
theorem ckF_ownsShade : cdF_ownsShade.all (rowOK mF_ownsShade) = true := by decide +kernel
def cdK_countCouples : List Row := [
  (0, 1, .aload_n 0, 0, 0, 0, 0, 0, []),
  (1, 3, .getfield 9, 3, 0, 2, 68, 0, []),
  (4, 1, .iconst 0, 0, 0, 0, 0, 0, []),
  (5, 3, .invokestatic 32, mJa_fillI, 2, 0, 113, 0, [(0, 0)]),
  (8, 1, .iconst 0, 0, 0, 0, 0, 0, []),
  (9, 1, .istore_n 3, 0, 0, 0, 0, 0, []),
  (10, 1, .iload_n 3, 0, 0, 0, 0, 0, []),
  (11, 1, .aload_n 1, 0, 0, 0, 0, 0, []),
  (12, 3, .getfield 38, 7, 1, 0, 74, 0, []),
  (15, 3, .if_icmp .ge 100, 115, 0, 0, 0, 0, []),
  (18, 1, .iconst 0, 0, 0, 0, 0, 0, []),
  (19, 2, .istore 4, 0, 0, 0, 0, 0, []),
  (21, 2, .iload 4, 0, 0, 0, 0, 0, []),
  (23, 1, .aload_n 1, 0, 0, 0, 0, 0, []),
  (24, 3, .getfield 43, 7, 0, 0, 75, 0, []),
  (27, 3, .if_icmp .ge 82, 109, 0, 0, 0, 0, []),
  (30, 1, .aload_n 1, 0, 0, 0, 0, 0, []),
  (31, 2, .iload 4, 0, 0, 0, 0, 0, []),
  (33, 1, .iload_n 3, 0, 0, 0, 0, 0, []),
  (34, 3, .invokevirtual 46, mS_numberOf, 2, 7, 114, 0, [(0, 1)]),
  (37, 2, .istore 5, 0, 0, 0, 0, 0, []),
  (39, 2, .iload 4, 0, 0, 0, 0, 0, []),
  (41, 1, .iconst 1, 0, 0, 0, 0, 1, []),
  (42, 1, .iadd, 0, 0, 0, 0, 0, []),
  (43, 1, .aload_n 1, 0, 0, 0, 0, 0, []),
  (44, 3, .getfield 43, 7, 0, 0, 75, 0, []),
  (47, 3, .if_icmp .ge 23, 70, 0, 0, 0, 0, []),
  (50, 1, .aload_n 0, 0, 0, 0, 0, 0, []),
  (51, 1, .aload_n 2, 0, 0, 0, 0, 0, []),
  (52, 3, .getfield 50, 2, 0, 2, 76, 0, []),
  (55, 2, .iload 5, 0, 0, 0, 0, 0, []),
  (57, 1, .iaload, 0, 0, 0, 0, 0, []),
  (58, 1, .aload_n 2, 0, 0, 0, 0, 0, []),
  (59, 3, .getfield 50, 2, 0, 2, 76, 0, []),
  (62, 2, .iload 5, 0, 0, 0, 0, 0, []),
  (64, 1, .iconst 1, 0, 0, 0, 0, 1, []),
  (65, 1, .iadd, 0, 0, 0, 0, 0, []),
  (66, 1, .iaload, 0, 0, 0, 0, 0, []),
  (67, 3, .invokevirtual 55, mK_join, 2, 3, 115, 0, [(0, 0)]),
  (70, 1, .iload_n 3, 0, 0, 0, 0, 0, []),
  (71, 1, .iconst 1, 0, 0, 0, 0, 1, []),
  (72, 1, .iadd, 0, 0, 0, 0, 0, []),
  (73, 1, .aload_n 1, 0, 0, 0, 0, 0, []),
  (74, 3, .getfield 38, 7, 1, 0, 74, 0, []),
  (77, 3, .if_icmp .ge 26, 103, 0, 0, 0, 0, []),
  (80, 1, .aload_n 0, 0, 0, 0, 0, 0, []),
  (81, 1, .aload_n 2, 0, 0, 0, 0, 0, []),
  (82, 3, .getfield 50, 2, 0, 2, 76, 0, []),
  (85, 2, .iload 5, 0, 0, 0, 0, 0, []),
  (87, 1, .iaload, 0, 0, 0, 0, 0, []),
  (88, 1, .aload_n 2, 0, 0, 0, 0, 0, []),
  (89, 3, .getfield 50, 2, 0, 2, 76, 0, []),
  (92, 2, .iload 5, 0, 0, 0, 0, 0, []),
  (94, 1, .aload_n 1, 0, 0, 0, 0, 0, []),
  (95, 3, .getfield 43, 7, 0, 0, 75, 0, []),
  (98, 1, .iadd, 0, 0, 0, 0, 0, []),
  (99, 1, .iaload, 0, 0, 0, 0, 0, []),
  (100, 3, .invokevirtual 55, mK_join, 2, 3, 115, 0, [(0, 0)]),
  (103, 3, .iinc 4 1, 0, 0, 0, 0, 1, []),
  (106, 3, .goto (-85), 21, 0, 0, 0, 0, []),
  (109, 3, .iinc 3 1, 0, 0, 0, 0, 1, []),
  (112, 3, .goto (-102), 10, 0, 0, 0, 0, []),
  (115, 1, .return_, 0, 0, 0, 0, 0, [])]
theorem ckK_countCouples : cdK_countCouples.all (rowOK mK_countCouples) = true := by decide +kernel
def cdK_join : List Row := [
  (0, 1, .iload_n 1, 0, 0, 0, 0, 0, []),
  (1, 1, .iconst (-1), 0, 0, 0, 0, (-1), []),
  (2, 3, .if_icmp .eq 43, 45, 0, 0, 0, 0, []),
  (5, 1, .iload_n 2, 0, 0, 0, 0, 0, []),
  (6, 1, .iconst (-1), 0, 0, 0, 0, (-1), []),
  (7, 3, .if_icmp .eq 38, 45, 0, 0, 0, 0, []),
  (10, 1, .iload_n 1, 0, 0, 0, 0, 0, []),
  (11, 1, .iload_n 2, 0, 0, 0, 0, 0, []),
  (12, 3, .if_icmp .eq 33, 45, 0, 0, 0, 0, []),
  (15, 1, .aload_n 0, 0, 0, 0, 0, 0, []),
  (16, 3, .getfield 9, 3, 0, 2, 68, 0, []),
  (19, 1, .iload_n 1, 0, 0, 0, 0, 0, []),
  (20, 2, .bipush 40, 0, 0, 0, 0, 40, []),
  (22, 1, .imul, 0, 0, 0, 0, 0, []),
  (23, 1, .iload_n 2, 0, 0, 0, 0, 0, []),
  (24, 1, .iadd, 0, 0, 0, 0, 0, []),
  (25, 1, .dup2, 0, 0, 0, 0, 0, []),
  (26, 1, .iaload, 0, 0, 0, 0, 0, []),
  (27, 1, .iconst 1, 0, 0, 0, 0, 1, []),
  (28, 1, .iadd, 0, 0, 0, 0, 0, []),
  (29, 1, .iastore, 0, 0, 0, 0, 0, []),
  (30, 1, .aload_n 0, 0, 0, 0, 0, 0, []),
  (31, 3, .getfield 9, 3, 0, 2, 68, 0, []),
  (34, 1, .iload_n 2, 0, 0, 0, 0, 0, []),
  (35, 2, .bipush 40, 0, 0, 0, 0, 40, []),
  (37, 1, .imul, 0, 0, 0, 0, 0, []),
  (38, 1, .iload_n 1, 0, 0, 0, 0, 0, []),
  (39, 1, .iadd, 0, 0, 0, 0, 0, []),
  (40, 1, .dup2, 0, 0, 0, 0, 0, []),
  (41, 1, .iaload, 0, 0, 0, 0, 0, []),
  (42, 1, .iconst 1, 0, 0, 0, 0, 1, []),
  (43, 1, .iadd, 0, 0, 0, 0, 0, []),
  (44, 1, .iastore, 0, 0, 0, 0, 0, []),
  (45, 1, .return_, 0, 0, 0, 0, 0, [])]
theorem ckK_join : cdK_join.all (rowOK mK_join) = true := by decide +kernel
def cdK_couplesOfTwo : List Row := [
  (0, 1, .aload_n 0, 0, 0, 0, 0, 0, []),
  (1, 3, .getfield 9, 3, 0, 2, 68, 0, []),
  (4, 1, .iload_n 1, 0, 0, 0, 0, 0, []),
  (5, 2, .bipush 40, 0, 0, 0, 0, 40, []),
  (7, 1, .imul, 0, 0, 0, 0, 0, []),
  (8, 1, .iload_n 2, 0, 0, 0, 0, 0, []),
  (9, 1, .iadd, 0, 0, 0, 0, 0, []),
  (10, 1, .iaload, 0, 0, 0, 0, 0, []),
  (11, 1, .ireturn, 0, 0, 0, 0, 0, [])]
theorem ckK_couplesOfTwo : cdK_couplesOfTwo.all (rowOK mK_couplesOfTwo) = true := by decide +kernel
def cdK_couplesOf : List Row := [
  (0, 1, .iconst 0, 0, 0, 0, 0, 0, []),
  (1, 1, .istore_n 3, 0, 0, 0, 0, 0, []),
  (2, 1, .iconst 0, 0, 0, 0, 0, 0, []),
  (3, 2, .istore 4, 0, 0, 0, 0, 0, []),
  (5, 2, .iload 4, 0, 0, 0, 0, 0, []),
  (7, 1, .iload_n 2, 0, 0, 0, 0, 0, []),
  (8, 3, .if_icmp .ge 19, 27, 0, 0, 0, 0, []),
  (11, 1, .iload_n 3, 0, 0, 0, 0, 0, []),
  (12, 1, .aload_n 0, 0, 0, 0, 0, 0, []),
  (13, 1, .iload_n 1, 0, 0, 0, 0, 0, []),
  (14, 2, .iload 4, 0, 0, 0, 0, 0, []),
  (16, 3, .invokevirtual 59, mK_couplesOfTwo, 2, 3, 116, 0, [(0, 1)]),
  (19, 1, .iadd, 0, 0, 0, 0, 0, []),
  (20, 1, .istore_n 3, 0, 0, 0, 0, 0, []),
  (21, 3, .iinc 4 1, 0, 0, 0, 0, 1, []),
  (24, 3, .goto (-19), 5, 0, 0, 0, 0, []),
  (27, 1, .iload_n 3, 0, 0, 0, 0, 0, []),
  (28, 1, .ireturn, 0, 0, 0, 0, 0, [])]
theorem ckK_couplesOf : cdK_couplesOf.all (rowOK mK_couplesOf) = true := by decide +kernel
def cdK_fewestSteps : List Row := [
  (0, 1, .aload_n 0, 0, 0, 0, 0, 0, []),
  (1, 3, .getfield 18, 3, 2, 2, 70, 0, []),
  (4, 1, .iconst (-1), 0, 0, 0, 0, (-1), []),
  (5, 3, .invokestatic 32, mJa_fillI, 2, 0, 113, 0, [(0, 0)]),
  (8, 1, .aload_n 0, 0, 0, 0, 0, 0, []),
  (9, 3, .getfield 18, 3, 2, 2, 70, 0, []),
  (12, 1, .iload_n 1, 0, 0, 0, 0, 0, []),
  (13, 1, .iconst 0, 0, 0, 0, 0, 0, []),
  (14, 1, .iastore, 0, 0, 0, 0, 0, []),
  (15, 1, .aload_n 0, 0, 0, 0, 0, 0, []),
  (16, 3, .getfield 15, 3, 1, 2, 69, 0, []),
  (19, 1, .iconst 0, 0, 0, 0, 0, 0, []),
  (20, 1, .iload_n 1, 0, 0, 0, 0, 0, []),
  (21, 1, .iastore, 0, 0, 0, 0, 0, []),
  (22, 1, .iconst 1, 0, 0, 0, 0, 1, []),
  (23, 2, .istore 4, 0, 0, 0, 0, 0, []),
  (25, 1, .iconst 0, 0, 0, 0, 0, 0, []),
  (26, 2, .istore 5, 0, 0, 0, 0, 0, []),
  (28, 2, .iload 5, 0, 0, 0, 0, 0, []),
  (30, 2, .iload 4, 0, 0, 0, 0, 0, []),
  (32, 3, .if_icmp .ge 97, 129, 0, 0, 0, 0, []),
  (35, 2, .iload 5, 0, 0, 0, 0, 0, []),
  (37, 2, .bipush 40, 0, 0, 0, 0, 40, []),
  (39, 3, .if_icmp .ge 90, 129, 0, 0, 0, 0, []),
  (42, 1, .aload_n 0, 0, 0, 0, 0, 0, []),
  (43, 3, .getfield 15, 3, 1, 2, 69, 0, []),
  (46, 2, .iload 5, 0, 0, 0, 0, 0, []),
  (48, 1, .iaload, 0, 0, 0, 0, 0, []),
  (49, 2, .istore 6, 0, 0, 0, 0, 0, []),
  (51, 1, .iconst 0, 0, 0, 0, 0, 0, []),
  (52, 2, .istore 7, 0, 0, 0, 0, 0, []),
  (54, 2, .iload 7, 0, 0, 0, 0, 0, []),
  (56, 1, .iload_n 3, 0, 0, 0, 0, 0, []),
  (57, 3, .if_icmp .ge 66, 123, 0, 0, 0, 0, []),
  (60, 2, .iload 4, 0, 0, 0, 0, 0, []),
  (62, 2, .bipush 40, 0, 0, 0, 0, 40, []),
  (64, 3, .if_icmp .ge 59, 123, 0, 0, 0, 0, []),
  (67, 1, .aload_n 0, 0, 0, 0, 0, 0, []),
  (68, 3, .getfield 18, 3, 2, 2, 70, 0, []),
  (71, 2, .iload 7, 0, 0, 0, 0, 0, []),
  (73, 1, .iaload, 0, 0, 0, 0, 0, []),
  (74, 1, .iconst (-1), 0, 0, 0, 0, (-1), []),
  (75, 3, .if_icmp .ne 42, 117, 0, 0, 0, 0, []),
  (78, 1, .aload_n 0, 0, 0, 0, 0, 0, []),
  (79, 2, .iload 6, 0, 0, 0, 0, 0, []),
  (81, 2, .iload 7, 0, 0, 0, 0, 0, []),
  (83, 3, .invokevirtual 59, mK_couplesOfTwo, 2, 3, 116, 0, [(0, 1)]),
  (86, 3, .ifCond .le 31, 117, 0, 0, 0, 0, []),
  (89, 1, .aload_n 0, 0, 0, 0, 0, 0, []),
  (90, 3, .getfield 18, 3, 2, 2, 70, 0, []),
  (93, 2, .iload 7, 0, 0, 0, 0, 0, []),
  (95, 1, .aload_n 0, 0, 0, 0, 0, 0, []),
  (96, 3, .getfield 18, 3, 2, 2, 70, 0, []),
  (99, 2, .iload 6, 0, 0, 0, 0, 0, []),
  (101, 1, .iaload, 0, 0, 0, 0, 0, []),
  (102, 1, .iconst 1, 0, 0, 0, 0, 1, []),
  (103, 1, .iadd, 0, 0, 0, 0, 0, []),
  (104, 1, .iastore, 0, 0, 0, 0, 0, []),
  (105, 1, .aload_n 0, 0, 0, 0, 0, 0, []),
  (106, 3, .getfield 15, 3, 1, 2, 69, 0, []),
  (109, 2, .iload 4, 0, 0, 0, 0, 0, []),
  (111, 2, .iload 7, 0, 0, 0, 0, 0, []),
  (113, 1, .iastore, 0, 0, 0, 0, 0, []),
  (114, 3, .iinc 4 1, 0, 0, 0, 0, 1, []),
  (117, 3, .iinc 7 1, 0, 0, 0, 0, 1, []),
  (120, 3, .goto (-66), 54, 0, 0, 0, 0, []),
  (123, 3, .iinc 5 1, 0, 0, 0, 0, 1, []),
  (126, 3, .goto (-98), 28, 0, 0, 0, 0, []),
  (129, 1, .aload_n 0, 0, 0, 0, 0, 0, []),
  (130, 3, .getfield 18, 3, 2, 2, 70, 0, []),
  (133, 1, .iload_n 2, 0, 0, 0, 0, 0, []),
  (134, 1, .iaload, 0, 0, 0, 0, 0, []),
  (135, 1, .ireturn, 0, 0, 0, 0, 0, [])]
theorem ckK_fewestSteps_0 : ((cdK_fewestSteps.drop 0).take 60).all (rowOK mK_fewestSteps) = true := by decide +kernel
theorem ckK_fewestSteps_60 : ((cdK_fewestSteps.drop 60).take 60).all (rowOK mK_fewestSteps) = true := by decide +kernel
theorem ckK_fewestSteps : cdK_fewestSteps.all (rowOK mK_fewestSteps) = true := by
  have h : (cdK_fewestSteps.drop 0).all (rowOK mK_fewestSteps) = true := (all_cut 60 ckK_fewestSteps_0 (by rw [List.drop_drop]; exact (all_cut 60 ckK_fewestSteps_60 (by rw [List.drop_drop]; exact (by rw [show cdK_fewestSteps.drop 120 = [] from rfl]; rfl)))))
  exact h
def cdK_piecesOf : List Row := [
  (0, 1, .iconst 0, 0, 0, 0, 0, 0, []),
  (1, 2, .istore 4, 0, 0, 0, 0, 0, []),
  (3, 2, .iload 4, 0, 0, 0, 0, 0, []),
  (5, 1, .aload_n 2, 0, 0, 0, 0, 0, []),
  (6, 3, .invokevirtual 62, mS_size, 0, 7, 117, 0, [(0, 1)]),
  (9, 3, .if_icmp .ge 32, 41, 0, 0, 0, 0, []),
  (12, 1, .aload_n 0, 0, 0, 0, 0, 0, []),
  (13, 3, .getfield 21, 3, 3, 2, 71, 0, []),
  (16, 2, .iload 4, 0, 0, 0, 0, 0, []),
  (18, 1, .aload_n 3, 0, 0, 0, 0, 0, []),
  (19, 3, .getfield 50, 2, 0, 2, 76, 0, []),
  (22, 2, .iload 4, 0, 0, 0, 0, 0, []),
  (24, 1, .iaload, 0, 0, 0, 0, 0, []),
  (25, 1, .iload_n 1, 0, 0, 0, 0, 0, []),
  (26, 3, .if_icmp .ne 7, 33, 0, 0, 0, 0, []),
  (29, 1, .iconst 1, 0, 0, 0, 0, 1, []),
  (30, 3, .goto 4, 34, 0, 0, 0, 0, []),
  (33, 1, .iconst 0, 0, 0, 0, 0, 0, []),
  (34, 1, .bastore, 0, 0, 0, 0, 0, []),
  (35, 3, .iinc 4 1, 0, 0, 0, 0, 1, []),
  (38, 3, .goto (-35), 3, 0, 0, 0, 0, []),
  (41, 1, .iconst 0, 0, 0, 0, 0, 0, []),
  (42, 2, .istore 4, 0, 0, 0, 0, 0, []),
  (44, 1, .iconst 0, 0, 0, 0, 0, 0, []),
  (45, 2, .istore 5, 0, 0, 0, 0, 0, []),
  (47, 2, .iload 5, 0, 0, 0, 0, 0, []),
  (49, 1, .aload_n 2, 0, 0, 0, 0, 0, []),
  (50, 3, .invokevirtual 62, mS_size, 0, 7, 117, 0, [(0, 1)]),
  (53, 3, .if_icmp .ge 29, 82, 0, 0, 0, 0, []),
  (56, 1, .aload_n 0, 0, 0, 0, 0, 0, []),
  (57, 3, .getfield 21, 3, 3, 2, 71, 0, []),
  (60, 2, .iload 5, 0, 0, 0, 0, 0, []),
  (62, 1, .baload, 0, 0, 0, 0, 0, []),
  (63, 3, .ifCond .eq 13, 76, 0, 0, 0, 0, []),
  (66, 3, .iinc 4 1, 0, 0, 0, 0, 1, []),
  (69, 1, .aload_n 0, 0, 0, 0, 0, 0, []),
  (70, 2, .iload 5, 0, 0, 0, 0, 0, []),
  (72, 1, .aload_n 2, 0, 0, 0, 0, 0, []),
  (73, 3, .invokevirtual 66, mK_clearPiece, 2, 3, 118, 0, [(0, 0)]),
  (76, 3, .iinc 5 1, 0, 0, 0, 0, 1, []),
  (79, 3, .goto (-32), 47, 0, 0, 0, 0, []),
  (82, 2, .iload 4, 0, 0, 0, 0, 0, []),
  (84, 1, .ireturn, 0, 0, 0, 0, 0, [])]
theorem ckK_piecesOf : cdK_piecesOf.all (rowOK mK_piecesOf) = true := by decide +kernel
def cdK_clearPiece : List Row := [
  (0, 1, .aload_n 0, 0, 0, 0, 0, 0, []),
  (1, 1, .iconst 0, 0, 0, 0, 0, 0, []),
  (2, 3, .putfield 28, 3, 5, 0, 73, 0, []),
  (5, 1, .aload_n 0, 0, 0, 0, 0, 0, []),
  (6, 1, .iload_n 1, 0, 0, 0, 0, 0, []),
  (7, 3, .invokevirtual 70, mK_push, 1, 3, 119, 0, [(0, 0)]),
  (10, 1, .iconst 0, 0, 0, 0, 0, 0, []),
  (11, 1, .istore_n 3, 0, 0, 0, 0, 0, []),
  (12, 1, .iload_n 3, 0, 0, 0, 0, 0, []),
  (13, 3, .sipush 400, 0, 0, 0, 0, 400, []),
  (16, 3, .if_icmp .ge 123, 139, 0, 0, 0, 0, []),
  (19, 1, .aload_n 0, 0, 0, 0, 0, 0, []),
  (20, 3, .getfield 28, 3, 5, 0, 73, 0, []),
  (23, 3, .ifCond .le 116, 139, 0, 0, 0, 0, []),
  (26, 1, .aload_n 0, 0, 0, 0, 0, 0, []),
  (27, 1, .dup, 0, 0, 0, 0, 0, []),
  (28, 3, .getfield 28, 3, 5, 0, 73, 0, []),
  (31, 1, .iconst 1, 0, 0, 0, 0, 1, []),
  (32, 1, .isub, 0, 0, 0, 0, 0, []),
  (33, 3, .putfield 28, 3, 5, 0, 73, 0, []),
  (36, 1, .aload_n 0, 0, 0, 0, 0, 0, []),
  (37, 3, .getfield 25, 3, 4, 2, 72, 0, []),
  (40, 1, .aload_n 0, 0, 0, 0, 0, 0, []),
  (41, 3, .getfield 28, 3, 5, 0, 73, 0, []),
  (44, 1, .iaload, 0, 0, 0, 0, 0, []),
  (45, 2, .istore 4, 0, 0, 0, 0, 0, []),
  (47, 1, .aload_n 2, 0, 0, 0, 0, 0, []),
  (48, 2, .iload 4, 0, 0, 0, 0, 0, []),
  (50, 3, .invokevirtual 74, mS_columnOf, 1, 7, 120, 0, [(0, 1)]),
  (53, 2, .istore 5, 0, 0, 0, 0, 0, []),
  (55, 1, .aload_n 2, 0, 0, 0, 0, 0, []),
  (56, 2, .iload 4, 0, 0, 0, 0, 0, []),
  (58, 3, .invokevirtual 78, mS_rowOf, 1, 7, 121, 0, [(0, 1)]),
  (61, 2, .istore 6, 0, 0, 0, 0, 0, []),
  (63, 2, .iload 5, 0, 0, 0, 0, 0, []),
  (65, 3, .ifCond .le 11, 76, 0, 0, 0, 0, []),
  (68, 1, .aload_n 0, 0, 0, 0, 0, 0, []),
  (69, 2, .iload 4, 0, 0, 0, 0, 0, []),
  (71, 1, .iconst 1, 0, 0, 0, 0, 1, []),
  (72, 1, .isub, 0, 0, 0, 0, 0, []),
  (73, 3, .invokevirtual 70, mK_push, 1, 3, 119, 0, [(0, 0)]),
  (76, 2, .iload 5, 0, 0, 0, 0, 0, []),
  (78, 1, .iconst 1, 0, 0, 0, 0, 1, []),
  (79, 1, .iadd, 0, 0, 0, 0, 0, []),
  (80, 1, .aload_n 2, 0, 0, 0, 0, 0, []),
  (81, 3, .getfield 43, 7, 0, 0, 75, 0, []),
  (84, 3, .if_icmp .ge 11, 95, 0, 0, 0, 0, []),
  (87, 1, .aload_n 0, 0, 0, 0, 0, 0, []),
  (88, 2, .iload 4, 0, 0, 0, 0, 0, []),
  (90, 1, .iconst 1, 0, 0, 0, 0, 1, []),
  (91, 1, .iadd, 0, 0, 0, 0, 0, []),
  (92, 3, .invokevirtual 70, mK_push, 1, 3, 119, 0, [(0, 0)]),
  (95, 2, .iload 6, 0, 0, 0, 0, 0, []),
  (97, 3, .ifCond .le 14, 111, 0, 0, 0, 0, []),
  (100, 1, .aload_n 0, 0, 0, 0, 0, 0, []),
  (101, 2, .iload 4, 0, 0, 0, 0, 0, []),
  (103, 1, .aload_n 2, 0, 0, 0, 0, 0, []),
  (104, 3, .getfield 43, 7, 0, 0, 75, 0, []),
  (107, 1, .isub, 0, 0, 0, 0, 0, []),
  (108, 3, .invokevirtual 70, mK_push, 1, 3, 119, 0, [(0, 0)]),
  (111, 2, .iload 6, 0, 0, 0, 0, 0, []),
  (113, 1, .iconst 1, 0, 0, 0, 0, 1, []),
  (114, 1, .iadd, 0, 0, 0, 0, 0, []),
  (115, 1, .aload_n 2, 0, 0, 0, 0, 0, []),
  (116, 3, .getfield 38, 7, 1, 0, 74, 0, []),
  (119, 3, .if_icmp .ge 14, 133, 0, 0, 0, 0, []),
  (122, 1, .aload_n 0, 0, 0, 0, 0, 0, []),
  (123, 2, .iload 4, 0, 0, 0, 0, 0, []),
  (125, 1, .aload_n 2, 0, 0, 0, 0, 0, []),
  (126, 3, .getfield 43, 7, 0, 0, 75, 0, []),
  (129, 1, .iadd, 0, 0, 0, 0, 0, []),
  (130, 3, .invokevirtual 70, mK_push, 1, 3, 119, 0, [(0, 0)]),
  (133, 3, .iinc 3 1, 0, 0, 0, 0, 1, []),
  (136, 3, .goto (-124), 12, 0, 0, 0, 0, []),
  (139, 1, .return_, 0, 0, 0, 0, 0, [])]
theorem ckK_clearPiece_0 : ((cdK_clearPiece.drop 0).take 60).all (rowOK mK_clearPiece) = true := by decide +kernel
theorem ckK_clearPiece_60 : ((cdK_clearPiece.drop 60).take 60).all (rowOK mK_clearPiece) = true := by decide +kernel
theorem ckK_clearPiece : cdK_clearPiece.all (rowOK mK_clearPiece) = true := by
  have h : (cdK_clearPiece.drop 0).all (rowOK mK_clearPiece) = true := (all_cut 60 ckK_clearPiece_0 (by rw [List.drop_drop]; exact (all_cut 60 ckK_clearPiece_60 (by rw [List.drop_drop]; exact (by rw [show cdK_clearPiece.drop 120 = [] from rfl]; rfl)))))
  exact h
def cdK_push : List Row := [
  (0, 1, .aload_n 0, 0, 0, 0, 0, 0, []),
  (1, 3, .getfield 21, 3, 3, 2, 71, 0, []),
  (4, 1, .iload_n 1, 0, 0, 0, 0, 0, []),
  (5, 1, .baload, 0, 0, 0, 0, 0, []),
  (6, 3, .ifCond .eq 40, 46, 0, 0, 0, 0, []),
  (9, 1, .aload_n 0, 0, 0, 0, 0, 0, []),
  (10, 3, .getfield 28, 3, 5, 0, 73, 0, []),
  (13, 3, .sipush 400, 0, 0, 0, 0, 400, []),
  (16, 3, .if_icmp .ge 30, 46, 0, 0, 0, 0, []),
  (19, 1, .aload_n 0, 0, 0, 0, 0, 0, []),
  (20, 3, .getfield 21, 3, 3, 2, 71, 0, []),
  (23, 1, .iload_n 1, 0, 0, 0, 0, 0, []),
  (24, 1, .iconst 0, 0, 0, 0, 0, 0, []),
  (25, 1, .bastore, 0, 0, 0, 0, 0, []),
  (26, 1, .aload_n 0, 0, 0, 0, 0, 0, []),
  (27, 3, .getfield 25, 3, 4, 2, 72, 0, []),
  (30, 1, .aload_n 0, 0, 0, 0, 0, 0, []),
  (31, 3, .getfield 28, 3, 5, 0, 73, 0, []),
  (34, 1, .iload_n 1, 0, 0, 0, 0, 0, []),
  (35, 1, .iastore, 0, 0, 0, 0, 0, []),
  (36, 1, .aload_n 0, 0, 0, 0, 0, 0, []),
  (37, 1, .dup, 0, 0, 0, 0, 0, []),
  (38, 3, .getfield 28, 3, 5, 0, 73, 0, []),
  (41, 1, .iconst 1, 0, 0, 0, 0, 1, []),
  (42, 1, .iadd, 0, 0, 0, 0, 0, []),
  (43, 3, .putfield 28, 3, 5, 0, 73, 0, []),
  (46, 1, .return_, 0, 0, 0, 0, 0, [])]
theorem ckK_push : cdK_push.all (rowOK mK_push) = true := by decide +kernel
def cdP_clear : List Row := [
  (0, 1, .aload_n 0, 0, 0, 0, 0, 0, []),
  (1, 1, .iconst 0, 0, 0, 0, 0, 0, []),
  (2, 3, .putfield 19, 4, 2, 0, 79, 0, []),
  (5, 1, .aload_n 0, 0, 0, 0, 0, 0, []),
  (6, 1, .iconst 0, 0, 0, 0, 0, 0, []),
  (7, 3, .putfield 22, 4, 3, 0, 80, 0, []),
  (10, 1, .return_, 0, 0, 0, 0, 0, [])]
theorem ckP_clear : cdP_clear.all (rowOK mP_clear) = true := by decide +kernel
def cdP_keep : List Row := [
  (0, 1, .aload_n 0, 0, 0, 0, 0, 0, []),
  (1, 1, .iconst 0, 0, 0, 0, 0, 0, []),
  (2, 3, .putfield 22, 4, 3, 0, 80, 0, []),
  (5, 1, .aload_n 0, 0, 0, 0, 0, 0, []),
  (6, 3, .getfield 19, 4, 2, 0, 79, 0, []),
  (9, 2, .bipush 12, 0, 0, 0, 0, 12, []),
  (11, 3, .if_icmp .ne 26, 37, 0, 0, 0, 0, []),
  (14, 1, .aload_n 0, 0, 0, 0, 0, 0, []),
  (15, 1, .aload_n 0, 0, 0, 0, 0, 0, []),
  (16, 3, .getfield 15, 4, 1, 0, 78, 0, []),
  (19, 1, .iconst 1, 0, 0, 0, 0, 1, []),
  (20, 1, .iadd, 0, 0, 0, 0, 0, []),
  (21, 2, .bipush 12, 0, 0, 0, 0, 12, []),
  (23, 1, .irem, 0, 0, 0, 0, 0, []),
  (24, 3, .putfield 15, 4, 1, 0, 78, 0, []),
  (27, 1, .aload_n 0, 0, 0, 0, 0, 0, []),
  (28, 1, .dup, 0, 0, 0, 0, 0, []),
  (29, 3, .getfield 19, 4, 2, 0, 79, 0, []),
  (32, 1, .iconst 1, 0, 0, 0, 0, 1, []),
  (33, 1, .isub, 0, 0, 0, 0, 0, []),
  (34, 3, .putfield 19, 4, 2, 0, 79, 0, []),
  (37, 1, .aload_n 0, 0, 0, 0, 0, 0, []),
  (38, 3, .getfield 11, 4, 0, 2, 77, 0, []),
  (41, 1, .aload_n 0, 0, 0, 0, 0, 0, []),
  (42, 1, .aload_n 0, 0, 0, 0, 0, 0, []),
  (43, 3, .getfield 19, 4, 2, 0, 79, 0, []),
  (46, 3, .invokevirtual 26, mP_slotOf, 1, 4, 123, 0, [(0, 1)]),
  (49, 1, .aaload, 0, 0, 3, 0, 0, []),
  (50, 1, .astore_n 2, 0, 0, 0, 0, 0, []),
  (51, 1, .aload_n 2, 0, 0, 0, 0, 0, []),
  (52, 1, .aload_n 1, 0, 0, 0, 0, 0, []),
  (53, 3, .invokevirtual 30, mS_copy, 1, 7, 124, 0, [(0, 0)]),
  (56, 1, .aload_n 0, 0, 0, 0, 0, 0, []),
  (57, 1, .dup, 0, 0, 0, 0, 0, []),
  (58, 3, .getfield 19, 4, 2, 0, 79, 0, []),
  (61, 1, .iconst 1, 0, 0, 0, 0, 1, []),
  (62, 1, .iadd, 0, 0, 0, 0, 0, []),
  (63, 3, .putfield 19, 4, 2, 0, 79, 0, []),
  (66, 1, .aload_n 2, 0, 0, 0, 0, 0, []),
  (67, 1, .areturn, 0, 0, 0, 0, 0, [])]
theorem ckP_keep : cdP_keep.all (rowOK mP_keep) = true := by decide +kernel
def cdP_swapBack : List Row := [
  (0, 1, .aload_n 0, 0, 0, 0, 0, 0, []),
  (1, 1, .dup, 0, 0, 0, 0, 0, []),
  (2, 3, .getfield 19, 4, 2, 0, 79, 0, []),
  (5, 1, .iconst 1, 0, 0, 0, 0, 1, []),
  (6, 1, .isub, 0, 0, 0, 0, 0, []),
  (7, 3, .putfield 19, 4, 2, 0, 79, 0, []),
  (10, 1, .aload_n 0, 0, 0, 0, 0, 0, []),
  (11, 1, .dup, 0, 0, 0, 0, 0, []),
  (12, 3, .getfield 22, 4, 3, 0, 80, 0, []),
  (15, 1, .iconst 1, 0, 0, 0, 0, 1, []),
  (16, 1, .iadd, 0, 0, 0, 0, 0, []),
  (17, 3, .putfield 22, 4, 3, 0, 80, 0, []),
  (20, 1, .aload_n 0, 0, 0, 0, 0, 0, []),
  (21, 1, .aload_n 0, 0, 0, 0, 0, 0, []),
  (22, 1, .aload_n 0, 0, 0, 0, 0, 0, []),
  (23, 3, .getfield 19, 4, 2, 0, 79, 0, []),
  (26, 3, .invokevirtual 26, mP_slotOf, 1, 4, 123, 0, [(0, 1)]),
  (29, 1, .aload_n 1, 0, 0, 0, 0, 0, []),
  (30, 3, .invokevirtual 34, mP_swap, 2, 4, 125, 0, [(0, 3)]),
  (33, 1, .areturn, 0, 0, 0, 0, 0, [])]
theorem ckP_swapBack : cdP_swapBack.all (rowOK mP_swapBack) = true := by decide +kernel
def cdP_swapForth : List Row := [
  (0, 1, .aload_n 0, 0, 0, 0, 0, 0, []),
  (1, 1, .aload_n 0, 0, 0, 0, 0, 0, []),
  (2, 3, .getfield 19, 4, 2, 0, 79, 0, []),
  (5, 3, .invokevirtual 26, mP_slotOf, 1, 4, 123, 0, [(0, 1)]),
  (8, 1, .istore_n 2, 0, 0, 0, 0, 0, []),
  (9, 1, .aload_n 0, 0, 0, 0, 0, 0, []),
  (10, 1, .dup, 0, 0, 0, 0, 0, []),
  (11, 3, .getfield 19, 4, 2, 0, 79, 0, []),
  (14, 1, .iconst 1, 0, 0, 0, 0, 1, []),
  (15, 1, .iadd, 0, 0, 0, 0, 0, []),
  (16, 3, .putfield 19, 4, 2, 0, 79, 0, []),
  (19, 1, .aload_n 0, 0, 0, 0, 0, 0, []),
  (20, 1, .dup, 0, 0, 0, 0, 0, []),
  (21, 3, .getfield 22, 4, 3, 0, 80, 0, []),
  (24, 1, .iconst 1, 0, 0, 0, 0, 1, []),
  (25, 1, .isub, 0, 0, 0, 0, 0, []),
  (26, 3, .putfield 22, 4, 3, 0, 80, 0, []),
  (29, 1, .aload_n 0, 0, 0, 0, 0, 0, []),
  (30, 1, .iload_n 2, 0, 0, 0, 0, 0, []),
  (31, 1, .aload_n 1, 0, 0, 0, 0, 0, []),
  (32, 3, .invokevirtual 34, mP_swap, 2, 4, 125, 0, [(0, 3)]),
  (35, 1, .areturn, 0, 0, 0, 0, 0, [])]
theorem ckP_swapForth : cdP_swapForth.all (rowOK mP_swapForth) = true := by decide +kernel
def cdP_slotOf : List Row := [
  (0, 1, .aload_n 0, 0, 0, 0, 0, 0, []),
  (1, 3, .getfield 15, 4, 1, 0, 78, 0, []),
  (4, 1, .iload_n 1, 0, 0, 0, 0, 0, []),
  (5, 1, .iadd, 0, 0, 0, 0, 0, []),
  (6, 2, .bipush 12, 0, 0, 0, 0, 12, []),
  (8, 1, .irem, 0, 0, 0, 0, 0, []),
  (9, 1, .ireturn, 0, 0, 0, 0, 0, [])]
theorem ckP_slotOf : cdP_slotOf.all (rowOK mP_slotOf) = true := by decide +kernel
def cdP_swap : List Row := [
  (0, 1, .aload_n 0, 0, 0, 0, 0, 0, []),
  (1, 3, .getfield 11, 4, 0, 2, 77, 0, []),
  (4, 1, .iload_n 1, 0, 0, 0, 0, 0, []),
  (5, 1, .aaload, 0, 0, 3, 0, 0, []),
  (6, 1, .astore_n 3, 0, 0, 0, 0, 0, []),
  (7, 1, .aload_n 0, 0, 0, 0, 0, 0, []),
  (8, 3, .getfield 11, 4, 0, 2, 77, 0, []),
  (11, 1, .iload_n 1, 0, 0, 0, 0, 0, []),
  (12, 1, .aload_n 2, 0, 0, 0, 0, 0, []),
  (13, 1, .aastore, 7, 0, 3, 0, 0, []),
  (14, 1, .aload_n 3, 0, 0, 0, 0, 0, []),
  (15, 1, .areturn, 0, 0, 0, 0, 0, [])]
theorem ckP_swap : cdP_swap.all (rowOK mP_swap) = true := by decide +kernel
def cdQ_leaveOut : List Row := [
  (0, 1, .iconst 0, 0, 0, 0, 0, 0, []),
  (1, 2, .istore 4, 0, 0, 0, 0, 0, []),
  (3, 1, .iconst 0, 0, 0, 0, 0, 0, []),
  (4, 2, .istore 5, 0, 0, 0, 0, 0, []),
  (6, 2, .iload 5, 0, 0, 0, 0, 0, []),
  (8, 1, .aload_n 2, 0, 0, 0, 0, 0, []),
  (9, 3, .getfield 22, 7, 1, 0, 84, 0, []),
  (12, 3, .if_icmp .ge 72, 84, 0, 0, 0, 0, []),
  (15, 1, .iconst 0, 0, 0, 0, 0, 0, []),
  (16, 2, .istore 6, 0, 0, 0, 0, 0, []),
  (18, 2, .iload 6, 0, 0, 0, 0, 0, []),
  (20, 1, .aload_n 2, 0, 0, 0, 0, 0, []),
  (21, 3, .getfield 27, 7, 0, 0, 85, 0, []),
  (24, 3, .if_icmp .ge 54, 78, 0, 0, 0, 0, []),
  (27, 1, .aload_n 0, 0, 0, 0, 0, 0, []),
  (28, 3, .getfield 9, 5, 0, 2, 81, 0, []),
  (31, 2, .iload 4, 0, 0, 0, 0, 0, []),
  (33, 1, .iload_n 1, 0, 0, 0, 0, 0, []),
  (34, 1, .iconst (-1), 0, 0, 0, 0, (-1), []),
  (35, 3, .if_icmp .eq 26, 61, 0, 0, 0, 0, []),
  (38, 1, .aload_n 3, 0, 0, 0, 0, 0, []),
  (39, 3, .getfield 30, 2, 0, 2, 86, 0, []),
  (42, 2, .iload 4, 0, 0, 0, 0, 0, []),
  (44, 1, .iaload, 0, 0, 0, 0, 0, []),
  (45, 1, .iload_n 1, 0, 0, 0, 0, 0, []),
  (46, 3, .if_icmp .ne 15, 61, 0, 0, 0, 0, []),
  (49, 1, .iload_n 1, 0, 0, 0, 0, 0, []),
  (50, 2, .iload 6, 0, 0, 0, 0, 0, []),
  (52, 2, .iload 5, 0, 0, 0, 0, 0, []),
  (54, 1, .aload_n 2, 0, 0, 0, 0, 0, []),
  (55, 3, .invokestatic 35, mQ_priceOfOthers, 4, 0, 126, 0, [(0, 1)]),
  (58, 3, .goto 10, 68, 0, 0, 0, 0, []),
  (61, 1, .aload_n 3, 0, 0, 0, 0, 0, []),
  (62, 3, .getfield 39, 2, 3, 2, 87, 0, []),
  (65, 2, .iload 4, 0, 0, 0, 0, 0, []),
  (67, 1, .iaload, 0, 0, 0, 0, 0, []),
  (68, 1, .iastore, 0, 0, 0, 0, 0, []),
  (69, 3, .iinc 4 1, 0, 0, 0, 0, 1, []),
  (72, 3, .iinc 6 1, 0, 0, 0, 0, 1, []),
  (75, 3, .goto (-57), 18, 0, 0, 0, 0, []),
  (78, 3, .iinc 5 1, 0, 0, 0, 0, 1, []),
  (81, 3, .goto (-75), 6, 0, 0, 0, 0, []),
  (84, 1, .return_, 0, 0, 0, 0, 0, [])]
theorem ckQ_leaveOut : cdQ_leaveOut.all (rowOK mQ_leaveOut) = true := by decide +kernel
def cdQ_priceOfOthers : List Row := [
  (0, 1, .aload_n 3, 0, 0, 0, 0, 0, []),
  (1, 1, .iload_n 1, 0, 0, 0, 0, 0, []),
  (2, 1, .iload_n 2, 0, 0, 0, 0, 0, []),
  (3, 3, .invokevirtual 42, mS_weightAt, 2, 7, 127, 0, [(0, 1)]),
  (6, 2, .istore 4, 0, 0, 0, 0, 0, []),
  (8, 2, .iload 4, 0, 0, 0, 0, 0, []),
  (10, 3, .ifCond .ne 5, 15, 0, 0, 0, 0, []),
  (13, 1, .iconst 0, 0, 0, 0, 0, 0, []),
  (14, 1, .ireturn, 0, 0, 0, 0, 0, []),
  (15, 2, .ldc 46, 0, 0, 0, 2, 2147483647, []),
  (17, 2, .istore 5, 0, 0, 0, 0, 0, []),
  (19, 1, .iconst 0, 0, 0, 0, 0, 0, []),
  (20, 2, .istore 6, 0, 0, 0, 0, 0, []),
  (22, 2, .iload 6, 0, 0, 0, 0, 0, []),
  (24, 1, .aload_n 3, 0, 0, 0, 0, 0, []),
  (25, 3, .getfield 47, 7, 2, 0, 88, 0, []),
  (28, 3, .if_icmp .ge 45, 73, 0, 0, 0, 0, []),
  (31, 2, .iload 6, 0, 0, 0, 0, 0, []),
  (33, 1, .iload_n 0, 0, 0, 0, 0, 0, []),
  (34, 3, .if_icmp .eq 33, 67, 0, 0, 0, 0, []),
  (37, 2, .iload 4, 0, 0, 0, 0, 0, []),
  (39, 1, .aload_n 3, 0, 0, 0, 0, 0, []),
  (40, 2, .iload 6, 0, 0, 0, 0, 0, []),
  (42, 1, .iload_n 1, 0, 0, 0, 0, 0, []),
  (43, 1, .iload_n 2, 0, 0, 0, 0, 0, []),
  (44, 3, .invokevirtual 50, mS_gap, 3, 7, 128, 0, [(0, 2)]),
  (47, 1, .aload_n 3, 0, 0, 0, 0, 0, []),
  (48, 2, .iload 6, 0, 0, 0, 0, 0, []),
  (50, 3, .invokevirtual 54, mS_span, 1, 7, 129, 0, [(0, 2)]),
  (53, 3, .invokestatic 58, mC_price, 3, 1, 130, 0, [(0, 1)]),
  (56, 2, .istore 7, 0, 0, 0, 0, 0, []),
  (58, 2, .iload 5, 0, 0, 0, 0, 0, []),
  (60, 2, .iload 7, 0, 0, 0, 0, 0, []),
  (62, 3, .invokestatic 62, 0, 0, 3, 131, 0, []),
  (65, 2, .istore 5, 0, 0, 0, 0, 0, []),
  (67, 3, .iinc 6 1, 0, 0, 0, 0, 1, []),
  (70, 3, .goto (-48), 22, 0, 0, 0, 0, []),
  (73, 2, .iload 5, 0, 0, 0, 0, 0, []),
  (75, 1, .ireturn, 0, 0, 0, 0, 0, [])]
theorem ckQ_priceOfOthers : cdQ_priceOfOthers.all (rowOK mQ_priceOfOthers) = true := by decide +kernel
def cdQ_sum : List Row := [
  (0, 1, .iconst 0, 0, 0, 0, 0, 0, []),
  (1, 1, .istore_n 2, 0, 0, 0, 0, 0, []),
  (2, 1, .iconst 0, 0, 0, 0, 0, 0, []),
  (3, 1, .istore_n 3, 0, 0, 0, 0, 0, []),
  (4, 1, .iload_n 3, 0, 0, 0, 0, 0, []),
  (5, 1, .aload_n 1, 0, 0, 0, 0, 0, []),
  (6, 3, .invokevirtual 67, mS_size, 0, 7, 132, 0, [(0, 1)]),
  (9, 3, .if_icmp .ge 18, 27, 0, 0, 0, 0, []),
  (12, 1, .iload_n 2, 0, 0, 0, 0, 0, []),
  (13, 1, .aload_n 0, 0, 0, 0, 0, 0, []),
  (14, 3, .getfield 9, 5, 0, 2, 81, 0, []),
  (17, 1, .iload_n 3, 0, 0, 0, 0, 0, []),
  (18, 1, .iaload, 0, 0, 0, 0, 0, []),
  (19, 1, .iadd, 0, 0, 0, 0, 0, []),
  (20, 1, .istore_n 2, 0, 0, 0, 0, 0, []),
  (21, 3, .iinc 3 1, 0, 0, 0, 0, 1, []),
  (24, 3, .goto (-20), 4, 0, 0, 0, 0, []),
  (27, 1, .iload_n 2, 0, 0, 0, 0, 0, []),
  (28, 1, .ireturn, 0, 0, 0, 0, 0, [])]
theorem ckQ_sum : cdQ_sum.all (rowOK mQ_sum) = true := by decide +kernel
def cdQ_findCheapest : List Row := [
  (0, 1, .aload_n 0, 0, 0, 0, 0, 0, []),
  (1, 1, .iconst 0, 0, 0, 0, 0, 0, []),
  (2, 3, .putfield 15, 5, 1, 0, 82, 0, []),
  (5, 1, .aload_n 0, 0, 0, 0, 0, 0, []),
  (6, 2, .ldc 46, 0, 0, 0, 2, 2147483647, []),
  (8, 3, .putfield 19, 5, 2, 0, 83, 0, []),
  (11, 1, .iconst 0, 0, 0, 0, 0, 0, []),
  (12, 1, .istore_n 2, 0, 0, 0, 0, 0, []),
  (13, 1, .iload_n 2, 0, 0, 0, 0, 0, []),
  (14, 1, .aload_n 1, 0, 0, 0, 0, 0, []),
  (15, 3, .getfield 22, 7, 1, 0, 84, 0, []),
  (18, 3, .if_icmp .ge 59, 77, 0, 0, 0, 0, []),
  (21, 1, .iconst 0, 0, 0, 0, 0, 0, []),
  (22, 1, .istore_n 3, 0, 0, 0, 0, 0, []),
  (23, 1, .iload_n 3, 0, 0, 0, 0, 0, []),
  (24, 1, .aload_n 1, 0, 0, 0, 0, 0, []),
  (25, 3, .getfield 27, 7, 0, 0, 85, 0, []),
  (28, 3, .if_icmp .ge 43, 71, 0, 0, 0, 0, []),
  (31, 1, .aload_n 0, 0, 0, 0, 0, 0, []),
  (32, 1, .iload_n 3, 0, 0, 0, 0, 0, []),
  (33, 1, .iload_n 2, 0, 0, 0, 0, 0, []),
  (34, 1, .aload_n 1, 0, 0, 0, 0, 0, []),
  (35, 3, .invokevirtual 71, mQ_sumWithOneAt, 3, 5, 133, 0, [(0, 1)]),
  (38, 2, .istore 4, 0, 0, 0, 0, 0, []),
  (40, 2, .iload 4, 0, 0, 0, 0, 0, []),
  (42, 1, .aload_n 0, 0, 0, 0, 0, 0, []),
  (43, 3, .getfield 19, 5, 2, 0, 83, 0, []),
  (46, 3, .if_icmp .ge 19, 65, 0, 0, 0, 0, []),
  (49, 1, .aload_n 0, 0, 0, 0, 0, 0, []),
  (50, 2, .iload 4, 0, 0, 0, 0, 0, []),
  (52, 3, .putfield 19, 5, 2, 0, 83, 0, []),
  (55, 1, .aload_n 0, 0, 0, 0, 0, 0, []),
  (56, 1, .aload_n 1, 0, 0, 0, 0, 0, []),
  (57, 1, .iload_n 3, 0, 0, 0, 0, 0, []),
  (58, 1, .iload_n 2, 0, 0, 0, 0, 0, []),
  (59, 3, .invokevirtual 75, mS_numberOf, 2, 7, 134, 0, [(0, 1)]),
  (62, 3, .putfield 15, 5, 1, 0, 82, 0, []),
  (65, 3, .iinc 3 1, 0, 0, 0, 0, 1, []),
  (68, 3, .goto (-45), 23, 0, 0, 0, 0, []),
  (71, 3, .iinc 2 1, 0, 0, 0, 0, 1, []),
  (74, 3, .goto (-61), 13, 0, 0, 0, 0, []),
  (77, 1, .return_, 0, 0, 0, 0, 0, [])]
theorem ckQ_findCheapest : cdQ_findCheapest.all (rowOK mQ_findCheapest) = true := by decide +kernel
def cdQ_sumWithOneAt : List Row := [
  (0, 1, .iconst 0, 0, 0, 0, 0, 0, []),
  (1, 2, .istore 4, 0, 0, 0, 0, 0, []),
  (3, 1, .iconst 0, 0, 0, 0, 0, 0, []),
  (4, 2, .istore 5, 0, 0, 0, 0, 0, []),
  (6, 1, .iconst 0, 0, 0, 0, 0, 0, []),
  (7, 2, .istore 6, 0, 0, 0, 0, 0, []),
  (9, 2, .iload 6, 0, 0, 0, 0, 0, []),
  (11, 1, .aload_n 3, 0, 0, 0, 0, 0, []),
  (12, 3, .getfield 22, 7, 1, 0, 84, 0, []),
  (15, 3, .if_icmp .ge 103, 118, 0, 0, 0, 0, []),
  (18, 2, .iload 4, 0, 0, 0, 0, 0, []),
  (20, 1, .aload_n 0, 0, 0, 0, 0, 0, []),
  (21, 3, .getfield 19, 5, 2, 0, 83, 0, []),
  (24, 3, .if_icmp .ge 94, 118, 0, 0, 0, 0, []),
  (27, 2, .iload 6, 0, 0, 0, 0, 0, []),
  (29, 1, .iload_n 2, 0, 0, 0, 0, 0, []),
  (30, 1, .isub, 0, 0, 0, 0, 0, []),
  (31, 2, .iload 6, 0, 0, 0, 0, 0, []),
  (33, 1, .iload_n 2, 0, 0, 0, 0, 0, []),
  (34, 1, .isub, 0, 0, 0, 0, 0, []),
  (35, 1, .imul, 0, 0, 0, 0, 0, []),
  (36, 2, .istore 7, 0, 0, 0, 0, 0, []),
  (38, 1, .iconst 0, 0, 0, 0, 0, 0, []),
  (39, 2, .istore 8, 0, 0, 0, 0, 0, []),
  (41, 2, .iload 8, 0, 0, 0, 0, 0, []),
  (43, 1, .aload_n 3, 0, 0, 0, 0, 0, []),
  (44, 3, .getfield 27, 7, 0, 0, 85, 0, []),
  (47, 3, .if_icmp .ge 65, 112, 0, 0, 0, 0, []),
  (50, 1, .aload_n 0, 0, 0, 0, 0, 0, []),
  (51, 3, .getfield 9, 5, 0, 2, 81, 0, []),
  (54, 2, .iload 5, 0, 0, 0, 0, 0, []),
  (56, 1, .iaload, 0, 0, 0, 0, 0, []),
  (57, 3, .ifCond .le 46, 103, 0, 0, 0, 0, []),
  (60, 2, .iload 7, 0, 0, 0, 0, 0, []),
  (62, 2, .iload 8, 0, 0, 0, 0, 0, []),
  (64, 1, .iload_n 1, 0, 0, 0, 0, 0, []),
  (65, 1, .isub, 0, 0, 0, 0, 0, []),
  (66, 2, .iload 8, 0, 0, 0, 0, 0, []),
  (68, 1, .iload_n 1, 0, 0, 0, 0, 0, []),
  (69, 1, .isub, 0, 0, 0, 0, 0, []),
  (70, 1, .imul, 0, 0, 0, 0, 0, []),
  (71, 1, .iadd, 0, 0, 0, 0, 0, []),
  (72, 2, .istore 9, 0, 0, 0, 0, 0, []),
  (74, 2, .iload 4, 0, 0, 0, 0, 0, []),
  (76, 1, .aload_n 0, 0, 0, 0, 0, 0, []),
  (77, 3, .getfield 9, 5, 0, 2, 81, 0, []),
  (80, 2, .iload 5, 0, 0, 0, 0, 0, []),
  (82, 1, .iaload, 0, 0, 0, 0, 0, []),
  (83, 1, .aload_n 3, 0, 0, 0, 0, 0, []),
  (84, 3, .getfield 78, 7, 4, 2, 89, 0, []),
  (87, 2, .iload 5, 0, 0, 0, 0, 0, []),
  (89, 1, .iaload, 0, 0, 0, 0, 0, []),
  (90, 3, .sipush 1000, 0, 0, 0, 0, 1000, []),
  (93, 1, .imul, 0, 0, 0, 0, 0, []),
  (94, 2, .iload 9, 0, 0, 0, 0, 0, []),
  (96, 1, .imul, 0, 0, 0, 0, 0, []),
  (97, 3, .invokestatic 62, 0, 0, 3, 131, 0, []),
  (100, 1, .iadd, 0, 0, 0, 0, 0, []),
  (101, 2, .istore 4, 0, 0, 0, 0, 0, []),
  (103, 3, .iinc 5 1, 0, 0, 0, 0, 1, []),
  (106, 3, .iinc 8 1, 0, 0, 0, 0, 1, []),
  (109, 3, .goto (-68), 41, 0, 0, 0, 0, []),
  (112, 3, .iinc 6 1, 0, 0, 0, 0, 1, []),
  (115, 3, .goto (-106), 9, 0, 0, 0, 0, []),
  (118, 2, .iload 4, 0, 0, 0, 0, 0, []),
  (120, 1, .ireturn, 0, 0, 0, 0, 0, [])]
theorem ckQ_sumWithOneAt : cdQ_sumWithOneAt.all (rowOK mQ_sumWithOneAt) = true := by decide +kernel
def cdR_hasRoom : List Row := [
  (0, 1, .aload_n 0, 0, 0, 0, 0, 0, []),
  (1, 3, .getfield 9, 6, 0, 0, 90, 0, []),
  (4, 2, .bipush 20, 0, 0, 0, 0, 20, []),
  (6, 1, .iadd, 0, 0, 0, 0, 0, []),
  (7, 3, .sipush 900, 0, 0, 0, 0, 900, []),
  (10, 3, .if_icmp .gt 7, 17, 0, 0, 0, 0, []),
  (13, 1, .iconst 1, 0, 0, 0, 0, 1, []),
  (14, 3, .goto 4, 18, 0, 0, 0, 0, []),
  (17, 1, .iconst 0, 0, 0, 0, 0, 0, []),
  (18, 1, .ireturn, 0, 0, 1, 0, 0, [])]
theorem ckR_hasRoom : cdR_hasRoom.all (rowOK mR_hasRoom) = true := by decide +kernel
def cdR_append : List Row := [
  (0, 2, .bipush 24, 0, 0, 0, 0, 24, []),
  (2, 1, .istore_n 2, 0, 0, 0, 0, 0, []),
  (3, 1, .iload_n 2, 0, 0, 0, 0, 0, []),
  (4, 3, .ifCond .lt 45, 49, 0, 0, 0, 0, []),
  (7, 1, .aload_n 0, 0, 0, 0, 0, 0, []),
  (8, 3, .getfield 9, 6, 0, 0, 90, 0, []),
  (11, 3, .sipush 900, 0, 0, 0, 0, 900, []),
  (14, 3, .if_icmp .ge 35, 49, 0, 0, 0, 0, []),
  (17, 1, .aload_n 0, 0, 0, 0, 0, 0, []),
  (18, 3, .getfield 21, 6, 3, 2, 93, 0, []),
  (21, 1, .aload_n 0, 0, 0, 0, 0, 0, []),
  (22, 3, .getfield 9, 6, 0, 0, 90, 0, []),
  (25, 1, .iload_n 1, 0, 0, 0, 0, 0, []),
  (26, 1, .iload_n 2, 0, 0, 0, 0, 0, []),
  (27, 1, .ishr, 0, 0, 0, 0, 0, []),
  (28, 3, .sipush 255, 0, 0, 0, 0, 255, []),
  (31, 1, .iand, 0, 0, 0, 0, 0, []),
  (32, 1, .iastore, 0, 0, 0, 0, 0, []),
  (33, 1, .aload_n 0, 0, 0, 0, 0, 0, []),
  (34, 1, .dup, 0, 0, 0, 0, 0, []),
  (35, 3, .getfield 9, 6, 0, 0, 90, 0, []),
  (38, 1, .iconst 1, 0, 0, 0, 0, 1, []),
  (39, 1, .iadd, 0, 0, 0, 0, 0, []),
  (40, 3, .putfield 9, 6, 0, 0, 90, 0, []),
  (43, 3, .iinc 2 (-8), 0, 0, 0, 0, (-8), []),
  (46, 3, .goto (-43), 3, 0, 0, 0, 0, []),
  (49, 1, .return_, 0, 0, 0, 0, 0, [])]
theorem ckR_append : cdR_append.all (rowOK mR_append) = true := by decide +kernel
def cdR_handOver : List Row := [
  (0, 1, .aload_n 0, 0, 0, 0, 0, 0, []),
  (1, 3, .getfield 28, 6, 4, 2, 94, 0, []),
  (4, 1, .astore_n 2, 0, 0, 0, 0, 0, []),
  (5, 1, .aload_n 0, 0, 0, 0, 0, 0, []),
  (6, 1, .aload_n 1, 0, 0, 0, 0, 0, []),
  (7, 3, .putfield 28, 6, 4, 2, 94, 0, []),
  (10, 1, .aload_n 2, 0, 0, 0, 0, 0, []),
  (11, 1, .areturn, 0, 0, 0, 0, 0, [])]
theorem ckR_handOver : cdR_handOver.all (rowOK mR_handOver) = true := by decide +kernel
def cdR_read : List Row := [
  (0, 1, .aload_n 0, 0, 0, 0, 0, 0, []),
  (1, 1, .iconst 0, 0, 0, 0, 0, 0, []),
  (2, 3, .putfield 15, 6, 1, 0, 91, 0, []),
  (5, 1, .aload_n 0, 0, 0, 0, 0, 0, []),
  (6, 1, .iconst (-1), 0, 0, 0, 0, (-1), []),
  (7, 3, .putfield 18, 6, 2, 0, 92, 0, []),
  (10, 1, .aload_n 0, 0, 0, 0, 0, 0, []),
  (11, 1, .iconst 0, 0, 0, 0, 0, 0, []),
  (12, 3, .putfield 32, 6, 5, 0, 95, 0, []),
  (15, 1, .aload_n 0, 0, 0, 0, 0, 0, []),
  (16, 1, .iconst 0, 0, 0, 0, 0, 0, []),
  (17, 3, .putfield 35, 6, 6, 0, 96, 0, []),
  (20, 1, .aload_n 0, 0, 0, 0, 0, 0, []),
  (21, 3, .getfield 28, 6, 4, 2, 94, 0, []),
  (24, 3, .invokevirtual 44, mS_clear, 0, 7, 136, 0, [(0, 0)]),
  (27, 1, .aload_n 0, 0, 0, 0, 0, 0, []),
  (28, 3, .invokevirtual 47, mR_next, 0, 6, 137, 0, [(0, 0)]),
  (31, 1, .aload_n 0, 0, 0, 0, 0, 0, []),
  (32, 2, .ldc 50, 0, 0, 1, 0, 0, []),
  (34, 3, .invokevirtual 52, mR_isWord, 1, 6, 138, 0, [(0, 1)]),
  (37, 3, .ifCond .eq 7, 44, 0, 0, 0, 0, []),
  (40, 1, .aload_n 0, 0, 0, 0, 0, 0, []),
  (41, 3, .invokevirtual 56, mR_readSize, 0, 6, 139, 0, [(0, 0)]),
  (44, 1, .iconst 0, 0, 0, 0, 0, 0, []),
  (45, 1, .istore_n 1, 0, 0, 0, 0, 0, []),
  (46, 1, .iload_n 1, 0, 0, 0, 0, 0, []),
  (47, 3, .sipush 900, 0, 0, 0, 0, 900, []),
  (50, 3, .if_icmp .ge 28, 78, 0, 0, 0, 0, []),
  (53, 1, .aload_n 0, 0, 0, 0, 0, 0, []),
  (54, 3, .getfield 15, 6, 1, 0, 91, 0, []),
  (57, 3, .ifCond .ne 21, 78, 0, 0, 0, 0, []),
  (60, 1, .aload_n 0, 0, 0, 0, 0, 0, []),
  (61, 3, .getfield 41, 6, 8, 0, 98, 0, []),
  (64, 1, .iconst 1, 0, 0, 0, 0, 1, []),
  (65, 3, .if_icmp .eq 13, 78, 0, 0, 0, 0, []),
  (68, 1, .aload_n 0, 0, 0, 0, 0, 0, []),
  (69, 3, .invokevirtual 59, mR_readLine, 0, 6, 140, 0, [(0, 0)]),
  (72, 3, .iinc 1 1, 0, 0, 0, 0, 1, []),
  (75, 3, .goto (-29), 46, 0, 0, 0, 0, []),
  (78, 1, .aload_n 0, 0, 0, 0, 0, 0, []),
  (79, 1, .iconst 0, 0, 0, 0, 0, 0, []),
  (80, 3, .putfield 9, 6, 0, 0, 90, 0, []),
  (83, 1, .aload_n 0, 0, 0, 0, 0, 0, []),
  (84, 3, .getfield 15, 6, 1, 0, 91, 0, []),
  (87, 3, .ifCond .ne 7, 94, 0, 0, 0, 0, []),
  (90, 1, .iconst 1, 0, 0, 0, 0, 1, []),
  (91, 3, .goto 4, 95, 0, 0, 0, 0, []),
  (94, 1, .iconst 0, 0, 0, 0, 0, 0, []),
  (95, 1, .ireturn, 0, 0, 1, 0, 0, [])]
theorem ckR_read : cdR_read.all (rowOK mR_read) = true := by decide +kernel
def cdR_readSize : List Row := [
  (0, 1, .aload_n 0, 0, 0, 0, 0, 0, []),
  (1, 3, .getfield 28, 6, 4, 2, 94, 0, []),
  (4, 1, .aload_n 0, 0, 0, 0, 0, 0, []),
  (5, 1, .iconst 1, 0, 0, 0, 0, 1, []),
  (6, 2, .bipush 20, 0, 0, 0, 0, 20, []),
  (8, 3, .invokevirtual 62, mR_readNumber, 2, 6, 141, 0, [(0, 1)]),
  (11, 3, .putfield 66, 7, 0, 0, 99, 0, []),
  (14, 1, .aload_n 0, 0, 0, 0, 0, 0, []),
  (15, 3, .getfield 28, 6, 4, 2, 94, 0, []),
  (18, 1, .aload_n 0, 0, 0, 0, 0, 0, []),
  (19, 1, .iconst 1, 0, 0, 0, 0, 1, []),
  (20, 2, .bipush 20, 0, 0, 0, 0, 20, []),
  (22, 3, .invokevirtual 62, mR_readNumber, 2, 6, 141, 0, [(0, 1)]),
  (25, 3, .putfield 69, 7, 1, 0, 100, 0, []),
  (28, 1, .aload_n 0, 0, 0, 0, 0, 0, []),
  (29, 3, .invokevirtual 72, mR_readSign, 0, 6, 142, 0, [(0, 0)]),
  (32, 1, .return_, 0, 0, 0, 0, 0, [])]
theorem ckR_readSize : cdR_readSize.all (rowOK mR_readSize) = true := by decide +kernel
def cdR_readLine : List Row := [
  (0, 1, .aload_n 0, 0, 0, 0, 0, 0, []),
  (1, 2, .ldc 75, 0, 1, 1, 0, 0, []),
  (3, 3, .invokevirtual 52, mR_isWord, 1, 6, 138, 0, [(0, 1)]),
  (6, 3, .ifCond .eq 10, 16, 0, 0, 0, 0, []),
  (9, 1, .aload_n 0, 0, 0, 0, 0, 0, []),
  (10, 3, .invokevirtual 77, mR_readRow, 0, 6, 143, 0, [(0, 0)]),
  (13, 3, .goto 35, 48, 0, 0, 0, 0, []),
  (16, 1, .aload_n 0, 0, 0, 0, 0, 0, []),
  (17, 2, .ldc 80, 0, 2, 1, 0, 0, []),
  (19, 3, .invokevirtual 52, mR_isWord, 1, 6, 138, 0, [(0, 1)]),
  (22, 3, .ifCond .eq 10, 32, 0, 0, 0, 0, []),
  (25, 1, .aload_n 0, 0, 0, 0, 0, 0, []),
  (26, 3, .invokevirtual 82, mR_readDot, 0, 6, 144, 0, [(0, 0)]),
  (29, 3, .goto 19, 48, 0, 0, 0, 0, []),
  (32, 1, .aload_n 0, 0, 0, 0, 0, 0, []),
  (33, 1, .aload_n 0, 0, 0, 0, 0, 0, []),
  (34, 3, .getfield 41, 6, 8, 0, 98, 0, []),
  (37, 3, .ifCond .ne 7, 44, 0, 0, 0, 0, []),
  (40, 1, .iconst 1, 0, 0, 0, 0, 1, []),
  (41, 3, .goto 4, 45, 0, 0, 0, 0, []),
  (44, 1, .iconst 2, 0, 0, 0, 0, 2, []),
  (45, 3, .invokevirtual 85, mR_fail, 1, 6, 145, 0, [(0, 0)]),
  (48, 1, .return_, 0, 0, 0, 0, 0, [])]
theorem ckR_readLine : cdR_readLine.all (rowOK mR_readLine) = true := by decide +kernel
def cdR_readRow : List Row := [
  (0, 1, .aload_n 0, 0, 0, 0, 0, 0, []),
  (1, 3, .getfield 32, 6, 5, 0, 95, 0, []),
  (4, 1, .aload_n 0, 0, 0, 0, 0, 0, []),
  (5, 3, .getfield 28, 6, 4, 2, 94, 0, []),
  (8, 3, .getfield 69, 7, 1, 0, 100, 0, []),
  (11, 3, .if_icmp .lt 9, 20, 0, 0, 0, 0, []),
  (14, 1, .aload_n 0, 0, 0, 0, 0, 0, []),
  (15, 1, .iconst 3, 0, 0, 0, 0, 3, []),
  (16, 3, .invokevirtual 85, mR_fail, 1, 6, 145, 0, [(0, 0)]),
  (19, 1, .return_, 0, 0, 0, 0, 0, []),
  (20, 1, .aload_n 0, 0, 0, 0, 0, 0, []),
  (21, 3, .invokevirtual 47, mR_next, 0, 6, 137, 0, [(0, 0)]),
  (24, 1, .aload_n 0, 0, 0, 0, 0, 0, []),
  (25, 1, .iconst 3, 0, 0, 0, 0, 3, []),
  (26, 3, .invokevirtual 89, mR_expect, 1, 6, 146, 0, [(0, 1)]),
  (29, 3, .ifCond .ne 4, 33, 0, 0, 0, 0, []),
  (32, 1, .return_, 0, 0, 0, 0, 0, []),
  (33, 1, .aload_n 0, 0, 0, 0, 0, 0, []),
  (34, 3, .getfield 35, 6, 6, 0, 96, 0, []),
  (37, 1, .aload_n 0, 0, 0, 0, 0, 0, []),
  (38, 3, .getfield 38, 6, 7, 0, 97, 0, []),
  (41, 1, .isub, 0, 0, 0, 0, 0, []),
  (42, 1, .aload_n 0, 0, 0, 0, 0, 0, []),
  (43, 3, .getfield 28, 6, 4, 2, 94, 0, []),
  (46, 3, .getfield 66, 7, 0, 0, 99, 0, []),
  (49, 3, .if_icmp .le 9, 58, 0, 0, 0, 0, []),
  (52, 1, .aload_n 0, 0, 0, 0, 0, 0, []),
  (53, 1, .iconst 4, 0, 0, 0, 0, 4, []),
  (54, 3, .invokevirtual 85, mR_fail, 1, 6, 145, 0, [(0, 0)]),
  (57, 1, .return_, 0, 0, 0, 0, 0, []),
  (58, 1, .aload_n 0, 0, 0, 0, 0, 0, []),
  (59, 3, .getfield 38, 6, 7, 0, 97, 0, []),
  (62, 1, .istore_n 1, 0, 0, 0, 0, 0, []),
  (63, 1, .iload_n 1, 0, 0, 0, 0, 0, []),
  (64, 1, .aload_n 0, 0, 0, 0, 0, 0, []),
  (65, 3, .getfield 35, 6, 6, 0, 96, 0, []),
  (68, 3, .if_icmp .ge 45, 113, 0, 0, 0, 0, []),
  (71, 1, .aload_n 0, 0, 0, 0, 0, 0, []),
  (72, 3, .getfield 28, 6, 4, 2, 94, 0, []),
  (75, 3, .getfield 93, 7, 4, 2, 101, 0, []),
  (78, 1, .aload_n 0, 0, 0, 0, 0, 0, []),
  (79, 3, .getfield 32, 6, 5, 0, 95, 0, []),
  (82, 1, .aload_n 0, 0, 0, 0, 0, 0, []),
  (83, 3, .getfield 28, 6, 4, 2, 94, 0, []),
  (86, 3, .getfield 66, 7, 0, 0, 99, 0, []),
  (89, 1, .imul, 0, 0, 0, 0, 0, []),
  (90, 1, .iload_n 1, 0, 0, 0, 0, 0, []),
  (91, 1, .iadd, 0, 0, 0, 0, 0, []),
  (92, 1, .aload_n 0, 0, 0, 0, 0, 0, []),
  (93, 3, .getfield 38, 6, 7, 0, 97, 0, []),
  (96, 1, .isub, 0, 0, 0, 0, 0, []),
  (97, 1, .aload_n 0, 0, 0, 0, 0, 0, []),
  (98, 3, .getfield 21, 6, 3, 2, 93, 0, []),
  (101, 1, .iload_n 1, 0, 0, 0, 0, 0, []),
  (102, 1, .iaload, 0, 0, 0, 0, 0, []),
  (103, 2, .bipush 48, 0, 0, 0, 0, 48, []),
  (105, 1, .isub, 0, 0, 0, 0, 0, []),
  (106, 1, .iastore, 0, 0, 0, 0, 0, []),
  (107, 3, .iinc 1 1, 0, 0, 0, 0, 1, []),
  (110, 3, .goto (-47), 63, 0, 0, 0, 0, []),
  (113, 1, .aload_n 0, 0, 0, 0, 0, 0, []),
  (114, 1, .dup, 0, 0, 0, 0, 0, []),
  (115, 3, .getfield 32, 6, 5, 0, 95, 0, []),
  (118, 1, .iconst 1, 0, 0, 0, 0, 1, []),
  (119, 1, .iadd, 0, 0, 0, 0, 0, []),
  (120, 3, .putfield 32, 6, 5, 0, 95, 0, []),
  (123, 1, .aload_n 0, 0, 0, 0, 0, 0, []),
  (124, 3, .invokevirtual 72, mR_readSign, 0, 6, 142, 0, [(0, 0)]),
  (127, 1, .return_, 0, 0, 0, 0, 0, [])]
theorem ckR_readRow : cdR_readRow.all (rowOK mR_readRow) = true := by decide +kernel
def cdR_readDot : List Row := [
  (0, 1, .aload_n 0, 0, 0, 0, 0, 0, []),
  (1, 3, .getfield 28, 6, 4, 2, 94, 0, []),
  (4, 3, .getfield 96, 7, 2, 0, 102, 0, []),
  (7, 2, .bipush 40, 0, 0, 0, 0, 40, []),
  (9, 3, .if_icmp .lt 9, 18, 0, 0, 0, 0, []),
  (12, 1, .aload_n 0, 0, 0, 0, 0, 0, []),
  (13, 1, .iconst 3, 0, 0, 0, 0, 3, []),
  (14, 3, .invokevirtual 85, mR_fail, 1, 6, 145, 0, [(0, 0)]),
  (17, 1, .return_, 0, 0, 0, 0, 0, []),
  (18, 1, .aload_n 0, 0, 0, 0, 0, 0, []),
  (19, 1, .iconst 0, 0, 0, 0, 0, 0, []),
  (20, 1, .aload_n 0, 0, 0, 0, 0, 0, []),
  (21, 3, .getfield 28, 6, 4, 2, 94, 0, []),
  (24, 3, .getfield 66, 7, 0, 0, 99, 0, []),
  (27, 1, .iconst 1, 0, 0, 0, 0, 1, []),
  (28, 1, .isub, 0, 0, 0, 0, 0, []),
  (29, 3, .invokevirtual 62, mR_readNumber, 2, 6, 141, 0, [(0, 1)]),
  (32, 1, .istore_n 1, 0, 0, 0, 0, 0, []),
  (33, 1, .aload_n 0, 0, 0, 0, 0, 0, []),
  (34, 1, .iconst 0, 0, 0, 0, 0, 0, []),
  (35, 1, .aload_n 0, 0, 0, 0, 0, 0, []),
  (36, 3, .getfield 28, 6, 4, 2, 94, 0, []),
  (39, 3, .getfield 69, 7, 1, 0, 100, 0, []),
  (42, 1, .iconst 1, 0, 0, 0, 0, 1, []),
  (43, 1, .isub, 0, 0, 0, 0, 0, []),
  (44, 3, .invokevirtual 62, mR_readNumber, 2, 6, 141, 0, [(0, 1)]),
  (47, 1, .istore_n 2, 0, 0, 0, 0, 0, []),
  (48, 1, .aload_n 0, 0, 0, 0, 0, 0, []),
  (49, 3, .invokevirtual 72, mR_readSign, 0, 6, 142, 0, [(0, 0)]),
  (52, 1, .aload_n 0, 0, 0, 0, 0, 0, []),
  (53, 3, .getfield 15, 6, 1, 0, 91, 0, []),
  (56, 3, .ifCond .ne 12, 68, 0, 0, 0, 0, []),
  (59, 1, .aload_n 0, 0, 0, 0, 0, 0, []),
  (60, 3, .getfield 28, 6, 4, 2, 94, 0, []),
  (63, 1, .iload_n 1, 0, 0, 0, 0, 0, []),
  (64, 1, .iload_n 2, 0, 0, 0, 0, 0, []),
  (65, 3, .invokevirtual 99, mS_add, 2, 7, 147, 0, [(0, 0)]),
  (68, 1, .return_, 0, 0, 0, 0, 0, [])]
theorem ckR_readDot : cdR_readDot.all (rowOK mR_readDot) = true := by decide +kernel
def cdR_readNumber : List Row := [
  (0, 1, .aload_n 0, 0, 0, 0, 0, 0, []),
  (1, 3, .getfield 15, 6, 1, 0, 91, 0, []),
  (4, 3, .ifCond .eq 5, 9, 0, 0, 0, 0, []),
  (7, 1, .iload_n 1, 0, 0, 0, 0, 0, []),
  (8, 1, .ireturn, 0, 0, 0, 0, 0, []),
  (9, 1, .aload_n 0, 0, 0, 0, 0, 0, []),
  (10, 3, .invokevirtual 47, mR_next, 0, 6, 137, 0, [(0, 0)]),
  (13, 1, .aload_n 0, 0, 0, 0, 0, 0, []),
  (14, 1, .iconst 3, 0, 0, 0, 0, 3, []),
  (15, 3, .invokevirtual 89, mR_expect, 1, 6, 146, 0, [(0, 1)]),
  (18, 3, .ifCond .ne 5, 23, 0, 0, 0, 0, []),
  (21, 1, .iload_n 1, 0, 0, 0, 0, 0, []),
  (22, 1, .ireturn, 0, 0, 0, 0, 0, []),
  (23, 1, .aload_n 0, 0, 0, 0, 0, 0, []),
  (24, 3, .getfield 35, 6, 6, 0, 96, 0, []),
  (27, 1, .aload_n 0, 0, 0, 0, 0, 0, []),
  (28, 3, .getfield 38, 6, 7, 0, 97, 0, []),
  (31, 1, .isub, 0, 0, 0, 0, 0, []),
  (32, 1, .iconst 4, 0, 0, 0, 0, 4, []),
  (33, 3, .if_icmp .le 7, 40, 0, 0, 0, 0, []),
  (36, 1, .iconst (-1), 0, 0, 0, 0, (-1), []),
  (37, 3, .goto 7, 44, 0, 0, 0, 0, []),
  (40, 1, .aload_n 0, 0, 0, 0, 0, 0, []),
  (41, 3, .invokevirtual 103, mR_valueOfDigits, 0, 6, 148, 0, [(0, 1)]),
  (44, 1, .istore_n 3, 0, 0, 0, 0, 0, []),
  (45, 1, .iload_n 3, 0, 0, 0, 0, 0, []),
  (46, 1, .iload_n 1, 0, 0, 0, 0, 0, []),
  (47, 3, .if_icmp .lt 8, 55, 0, 0, 0, 0, []),
  (50, 1, .iload_n 3, 0, 0, 0, 0, 0, []),
  (51, 1, .iload_n 2, 0, 0, 0, 0, 0, []),
  (52, 3, .if_icmp .le 10, 62, 0, 0, 0, 0, []),
  (55, 1, .aload_n 0, 0, 0, 0, 0, 0, []),
  (56, 1, .iconst 4, 0, 0, 0, 0, 4, []),
  (57, 3, .invokevirtual 85, mR_fail, 1, 6, 145, 0, [(0, 0)]),
  (60, 1, .iload_n 1, 0, 0, 0, 0, 0, []),
  (61, 1, .ireturn, 0, 0, 0, 0, 0, []),
  (62, 1, .iload_n 3, 0, 0, 0, 0, 0, []),
  (63, 1, .ireturn, 0, 0, 0, 0, 0, [])]
theorem ckR_readNumber : cdR_readNumber.all (rowOK mR_readNumber) = true := by decide +kernel
def cdR_valueOfDigits : List Row := [
  (0, 1, .iconst 0, 0, 0, 0, 0, 0, []),
  (1, 1, .istore_n 1, 0, 0, 0, 0, 0, []),
  (2, 1, .aload_n 0, 0, 0, 0, 0, 0, []),
  (3, 3, .getfield 38, 6, 7, 0, 97, 0, []),
  (6, 1, .istore_n 2, 0, 0, 0, 0, 0, []),
  (7, 1, .iload_n 2, 0, 0, 0, 0, 0, []),
  (8, 1, .aload_n 0, 0, 0, 0, 0, 0, []),
  (9, 3, .getfield 35, 6, 6, 0, 96, 0, []),
  (12, 3, .if_icmp .ge 24, 36, 0, 0, 0, 0, []),
  (15, 1, .iload_n 1, 0, 0, 0, 0, 0, []),
  (16, 2, .bipush 10, 0, 0, 0, 0, 10, []),
  (18, 1, .imul, 0, 0, 0, 0, 0, []),
  (19, 1, .aload_n 0, 0, 0, 0, 0, 0, []),
  (20, 3, .getfield 21, 6, 3, 2, 93, 0, []),
  (23, 1, .iload_n 2, 0, 0, 0, 0, 0, []),
  (24, 1, .iaload, 0, 0, 0, 0, 0, []),
  (25, 1, .iadd, 0, 0, 0, 0, 0, []),
  (26, 2, .bipush 48, 0, 0, 0, 0, 48, []),
  (28, 1, .isub, 0, 0, 0, 0, 0, []),
  (29, 1, .istore_n 1, 0, 0, 0, 0, 0, []),
  (30, 3, .iinc 2 1, 0, 0, 0, 0, 1, []),
  (33, 3, .goto (-26), 7, 0, 0, 0, 0, []),
  (36, 1, .iload_n 1, 0, 0, 0, 0, 0, []),
  (37, 1, .ireturn, 0, 0, 0, 0, 0, [])]
theorem ckR_valueOfDigits : cdR_valueOfDigits.all (rowOK mR_valueOfDigits) = true := by decide +kernel
def cdR_readSign : List Row := [
  (0, 1, .aload_n 0, 0, 0, 0, 0, 0, []),
  (1, 3, .getfield 15, 6, 1, 0, 91, 0, []),
  (4, 3, .ifCond .eq 4, 8, 0, 0, 0, 0, []),
  (7, 1, .return_, 0, 0, 0, 0, 0, []),
  (8, 1, .aload_n 0, 0, 0, 0, 0, 0, []),
  (9, 3, .invokevirtual 47, mR_next, 0, 6, 137, 0, [(0, 0)]),
  (12, 1, .aload_n 0, 0, 0, 0, 0, 0, []),
  (13, 1, .iconst 4, 0, 0, 0, 0, 4, []),
  (14, 3, .invokevirtual 89, mR_expect, 1, 6, 146, 0, [(0, 1)]),
  (17, 3, .ifCond .eq 7, 24, 0, 0, 0, 0, []),
  (20, 1, .aload_n 0, 0, 0, 0, 0, 0, []),
  (21, 3, .invokevirtual 47, mR_next, 0, 6, 137, 0, [(0, 0)]),
  (24, 1, .return_, 0, 0, 0, 0, 0, [])]
theorem ckR_readSign : cdR_readSign.all (rowOK mR_readSign) = true := by decide +kernel
def cdR_expect : List Row := [
  (0, 1, .aload_n 0, 0, 0, 0, 0, 0, []),
  (1, 3, .getfield 41, 6, 8, 0, 98, 0, []),
  (4, 1, .iload_n 1, 0, 0, 0, 0, 0, []),
  (5, 3, .if_icmp .ne 5, 10, 0, 0, 0, 0, []),
  (8, 1, .iconst 1, 0, 0, 0, 0, 1, []),
  (9, 1, .ireturn, 0, 0, 1, 0, 0, []),
  (10, 1, .aload_n 0, 0, 0, 0, 0, 0, []),
  (11, 1, .aload_n 0, 0, 0, 0, 0, 0, []),
  (12, 3, .getfield 41, 6, 8, 0, 98, 0, []),
  (15, 3, .ifCond .ne 7, 22, 0, 0, 0, 0, []),
  (18, 1, .iconst 1, 0, 0, 0, 0, 1, []),
  (19, 3, .goto 4, 23, 0, 0, 0, 0, []),
  (22, 1, .iconst 2, 0, 0, 0, 0, 2, []),
  (23, 3, .invokevirtual 85, mR_fail, 1, 6, 145, 0, [(0, 0)]),
  (26, 1, .iconst 0, 0, 0, 0, 0, 0, []),
  (27, 1, .ireturn, 0, 0, 1, 0, 0, [])]
theorem ckR_expect : cdR_expect.all (rowOK mR_expect) = true := by decide +kernel
def cdR_fail : List Row := [
  (0, 1, .aload_n 0, 0, 0, 0, 0, 0, []),
  (1, 1, .iload_n 1, 0, 0, 0, 0, 0, []),
  (2, 3, .putfield 15, 6, 1, 0, 91, 0, []),
  (5, 1, .aload_n 0, 0, 0, 0, 0, 0, []),
  (6, 1, .aload_n 0, 0, 0, 0, 0, 0, []),
  (7, 3, .getfield 38, 6, 7, 0, 97, 0, []),
  (10, 3, .putfield 18, 6, 2, 0, 92, 0, []),
  (13, 1, .return_, 0, 0, 0, 0, 0, [])]
theorem ckR_fail : cdR_fail.all (rowOK mR_fail) = true := by decide +kernel
def cdR_isWord : List Row := [
  (0, 1, .aload_n 0, 0, 0, 0, 0, 0, []),
  (1, 3, .getfield 41, 6, 8, 0, 98, 0, []),
  (4, 1, .iconst 2, 0, 0, 0, 0, 2, []),
  (5, 3, .if_icmp .ne 19, 24, 0, 0, 0, 0, []),
  (8, 1, .aload_n 0, 0, 0, 0, 0, 0, []),
  (9, 3, .getfield 35, 6, 6, 0, 96, 0, []),
  (12, 1, .aload_n 0, 0, 0, 0, 0, 0, []),
  (13, 3, .getfield 38, 6, 7, 0, 97, 0, []),
  (16, 1, .isub, 0, 0, 0, 0, 0, []),
  (17, 1, .aload_n 1, 0, 0, 0, 0, 0, []),
  (18, 3, .invokevirtual 107, mJs_length, 0, 50, 149, 0, [(0, 1)]),
  (21, 3, .if_icmp .eq 5, 26, 0, 0, 0, 0, []),
  (24, 1, .iconst 0, 0, 0, 0, 0, 0, []),
  (25, 1, .ireturn, 0, 0, 1, 0, 0, []),
  (26, 1, .iconst 0, 0, 0, 0, 0, 0, []),
  (27, 1, .istore_n 2, 0, 0, 0, 0, 0, []),
  (28, 1, .iload_n 2, 0, 0, 0, 0, 0, []),
  (29, 1, .aload_n 1, 0, 0, 0, 0, 0, []),
  (30, 3, .invokevirtual 107, mJs_length, 0, 50, 149, 0, [(0, 1)]),
  (33, 3, .if_icmp .ge 30, 63, 0, 0, 0, 0, []),
  (36, 1, .aload_n 0, 0, 0, 0, 0, 0, []),
  (37, 3, .getfield 21, 6, 3, 2, 93, 0, []),
  (40, 1, .aload_n 0, 0, 0, 0, 0, 0, []),
  (41, 3, .getfield 38, 6, 7, 0, 97, 0, []),
  (44, 1, .iload_n 2, 0, 0, 0, 0, 0, []),
  (45, 1, .iadd, 0, 0, 0, 0, 0, []),
  (46, 1, .iaload, 0, 0, 0, 0, 0, []),
  (47, 1, .aload_n 1, 0, 0, 0, 0, 0, []),
  (48, 1, .iload_n 2, 0, 0, 0, 0, 0, []),
  (49, 3, .invokevirtual 111, mJs_charAt, 1, 50, 150, 0, [(0, 1)]),
  (52, 3, .if_icmp .eq 5, 57, 0, 0, 0, 0, []),
  (55, 1, .iconst 0, 0, 0, 0, 0, 0, []),
  (56, 1, .ireturn, 0, 0, 1, 0, 0, []),
  (57, 3, .iinc 2 1, 0, 0, 0, 0, 1, []),
  (60, 3, .goto (-32), 28, 0, 0, 0, 0, []),
  (63, 1, .iconst 1, 0, 0, 0, 0, 1, []),
  (64, 1, .ireturn, 0, 0, 1, 0, 0, [])]
theorem ckR_isWord : cdR_isWord.all (rowOK mR_isWord) = true := by decide +kernel
def cdR_next : List Row := [
  (0, 1, .aload_n 0, 0, 0, 0, 0, 0, []),
  (1, 3, .getfield 35, 6, 6, 0, 96, 0, []),
  (4, 1, .aload_n 0, 0, 0, 0, 0, 0, []),
  (5, 3, .getfield 9, 6, 0, 0, 90, 0, []),
  (8, 3, .if_icmp .ge 44, 52, 0, 0, 0, 0, []),
  (11, 1, .aload_n 0, 0, 0, 0, 0, 0, []),
  (12, 3, .getfield 21, 6, 3, 2, 93, 0, []),
  (15, 1, .aload_n 0, 0, 0, 0, 0, 0, []),
  (16, 3, .getfield 35, 6, 6, 0, 96, 0, []),
  (19, 1, .iaload, 0, 0, 0, 0, 0, []),
  (20, 2, .bipush 32, 0, 0, 0, 0, 32, []),
  (22, 3, .if_icmp .eq 17, 39, 0, 0, 0, 0, []),
  (25, 1, .aload_n 0, 0, 0, 0, 0, 0, []),
  (26, 3, .getfield 21, 6, 3, 2, 93, 0, []),
  (29, 1, .aload_n 0, 0, 0, 0, 0, 0, []),
  (30, 3, .getfield 35, 6, 6, 0, 96, 0, []),
  (33, 1, .iaload, 0, 0, 0, 0, 0, []),
  (34, 2, .bipush 10, 0, 0, 0, 0, 10, []),
  (36, 3, .if_icmp .ne 16, 52, 0, 0, 0, 0, []),
  (39, 1, .aload_n 0, 0, 0, 0, 0, 0, []),
  (40, 1, .dup, 0, 0, 0, 0, 0, []),
  (41, 3, .getfield 35, 6, 6, 0, 96, 0, []),
  (44, 1, .iconst 1, 0, 0, 0, 0, 1, []),
  (45, 1, .iadd, 0, 0, 0, 0, 0, []),
  (46, 3, .putfield 35, 6, 6, 0, 96, 0, []),
  (49, 3, .goto (-49), 0, 0, 0, 0, 0, []),
  (52, 1, .aload_n 0, 0, 0, 0, 0, 0, []),
  (53, 1, .aload_n 0, 0, 0, 0, 0, 0, []),
  (54, 3, .getfield 35, 6, 6, 0, 96, 0, []),
  (57, 3, .putfield 38, 6, 7, 0, 97, 0, []),
  (60, 1, .aload_n 0, 0, 0, 0, 0, 0, []),
  (61, 3, .getfield 35, 6, 6, 0, 96, 0, []),
  (64, 1, .aload_n 0, 0, 0, 0, 0, 0, []),
  (65, 3, .getfield 9, 6, 0, 0, 90, 0, []),
  (68, 3, .if_icmp .lt 9, 77, 0, 0, 0, 0, []),
  (71, 1, .aload_n 0, 0, 0, 0, 0, 0, []),
  (72, 1, .iconst 1, 0, 0, 0, 0, 1, []),
  (73, 3, .putfield 41, 6, 8, 0, 98, 0, []),
  (76, 1, .return_, 0, 0, 0, 0, 0, []),
  (77, 1, .aload_n 0, 0, 0, 0, 0, 0, []),
  (78, 1, .aload_n 0, 0, 0, 0, 0, 0, []),
  (79, 3, .getfield 21, 6, 3, 2, 93, 0, []),
  (82, 1, .aload_n 0, 0, 0, 0, 0, 0, []),
  (83, 3, .getfield 35, 6, 6, 0, 96, 0, []),
  (86, 1, .iaload, 0, 0, 0, 0, 0, []),
  (87, 3, .invokestatic 115, mR_kindOf, 1, 0, 151, 0, [(0, 1)]),
  (90, 3, .putfield 41, 6, 8, 0, 98, 0, []),
  (93, 1, .aload_n 0, 0, 0, 0, 0, 0, []),
  (94, 1, .dup, 0, 0, 0, 0, 0, []),
  (95, 3, .getfield 35, 6, 6, 0, 96, 0, []),
  (98, 1, .iconst 1, 0, 0, 0, 0, 1, []),
  (99, 1, .iadd, 0, 0, 0, 0, 0, []),
  (100, 3, .putfield 35, 6, 6, 0, 96, 0, []),
  (103, 1, .aload_n 0, 0, 0, 0, 0, 0, []),
  (104, 3, .getfield 41, 6, 8, 0, 98, 0, []),
  (107, 1, .iconst 2, 0, 0, 0, 0, 2, []),
  (108, 3, .if_icmp .eq 11, 119, 0, 0, 0, 0, []),
  (111, 1, .aload_n 0, 0, 0, 0, 0, 0, []),
  (112, 3, .getfield 41, 6, 8, 0, 98, 0, []),
  (115, 1, .iconst 3, 0, 0, 0, 0, 3, []),
  (116, 3, .if_icmp .ne 46, 162, 0, 0, 0, 0, []),
  (119, 1, .aload_n 0, 0, 0, 0, 0, 0, []),
  (120, 3, .getfield 35, 6, 6, 0, 96, 0, []),
  (123, 1, .aload_n 0, 0, 0, 0, 0, 0, []),
  (124, 3, .getfield 9, 6, 0, 0, 90, 0, []),
  (127, 3, .if_icmp .ge 35, 162, 0, 0, 0, 0, []),
  (130, 1, .aload_n 0, 0, 0, 0, 0, 0, []),
  (131, 3, .getfield 21, 6, 3, 2, 93, 0, []),
  (134, 1, .aload_n 0, 0, 0, 0, 0, 0, []),
  (135, 3, .getfield 35, 6, 6, 0, 96, 0, []),
  (138, 1, .iaload, 0, 0, 0, 0, 0, []),
  (139, 3, .invokestatic 115, mR_kindOf, 1, 0, 151, 0, [(0, 1)]),
  (142, 1, .aload_n 0, 0, 0, 0, 0, 0, []),
  (143, 3, .getfield 41, 6, 8, 0, 98, 0, []),
  (146, 3, .if_icmp .ne 16, 162, 0, 0, 0, 0, []),
  (149, 1, .aload_n 0, 0, 0, 0, 0, 0, []),
  (150, 1, .dup, 0, 0, 0, 0, 0, []),
  (151, 3, .getfield 35, 6, 6, 0, 96, 0, []),
  (154, 1, .iconst 1, 0, 0, 0, 0, 1, []),
  (155, 1, .iadd, 0, 0, 0, 0, 0, []),
  (156, 3, .putfield 35, 6, 6, 0, 96, 0, []),
  (159, 3, .goto (-40), 119, 0, 0, 0, 0, []),
  (162, 1, .aload_n 0, 0, 0, 0, 0, 0, []),
  (163, 3, .getfield 41, 6, 8, 0, 98, 0, []),
  (166, 1, .iconst 2, 0, 0, 0, 0, 2, []),
  (167, 3, .if_icmp .ne 17, 184, 0, 0, 0, 0, []),
  (170, 1, .aload_n 0, 0, 0, 0, 0, 0, []),
  (171, 3, .getfield 35, 6, 6, 0, 96, 0, []),
  (174, 1, .aload_n 0, 0, 0, 0, 0, 0, []),
  (175, 3, .getfield 38, 6, 7, 0, 97, 0, []),
  (178, 1, .isub, 0, 0, 0, 0, 0, []),
  (179, 2, .bipush 8, 0, 0, 0, 0, 8, []),
  (181, 3, .if_icmp .gt 32, 213, 0, 0, 0, 0, []),
  (184, 1, .aload_n 0, 0, 0, 0, 0, 0, []),
  (185, 3, .getfield 41, 6, 8, 0, 98, 0, []),
  (188, 1, .iconst 3, 0, 0, 0, 0, 3, []),
  (189, 3, .if_icmp .ne 29, 218, 0, 0, 0, 0, []),
  (192, 1, .aload_n 0, 0, 0, 0, 0, 0, []),
  (193, 3, .getfield 35, 6, 6, 0, 96, 0, []),
  (196, 1, .aload_n 0, 0, 0, 0, 0, 0, []),
  (197, 3, .getfield 38, 6, 7, 0, 97, 0, []),
  (200, 1, .isub, 0, 0, 0, 0, 0, []),
  (201, 2, .bipush 20, 0, 0, 0, 0, 20, []),
  (203, 3, .if_icmp .gt 10, 213, 0, 0, 0, 0, []),
  (206, 1, .aload_n 0, 0, 0, 0, 0, 0, []),
  (207, 3, .invokevirtual 119, mR_isAtLetter, 0, 6, 152, 0, [(0, 1)]),
  (210, 3, .ifCond .eq 8, 218, 0, 0, 0, 0, []),
  (213, 1, .aload_n 0, 0, 0, 0, 0, 0, []),
  (214, 1, .iconst 0, 0, 0, 0, 0, 0, []),
  (215, 3, .putfield 41, 6, 8, 0, 98, 0, []),
  (218, 1, .return_, 0, 0, 0, 0, 0, [])]
theorem ckR_next_0 : ((cdR_next.drop 0).take 60).all (rowOK mR_next) = true := by decide +kernel
theorem ckR_next_60 : ((cdR_next.drop 60).take 60).all (rowOK mR_next) = true := by decide +kernel
theorem ckR_next : cdR_next.all (rowOK mR_next) = true := by
  have h : (cdR_next.drop 0).all (rowOK mR_next) = true := (all_cut 60 ckR_next_0 (by rw [List.drop_drop]; exact (all_cut 60 ckR_next_60 (by rw [List.drop_drop]; exact (by rw [show cdR_next.drop 120 = [] from rfl]; rfl)))))
  exact h
def cdR_isAtLetter : List Row := [
  (0, 1, .aload_n 0, 0, 0, 0, 0, 0, []),
  (1, 3, .getfield 35, 6, 6, 0, 96, 0, []),
  (4, 1, .aload_n 0, 0, 0, 0, 0, 0, []),
  (5, 3, .getfield 9, 6, 0, 0, 90, 0, []),
  (8, 3, .if_icmp .ge 23, 31, 0, 0, 0, 0, []),
  (11, 1, .aload_n 0, 0, 0, 0, 0, 0, []),
  (12, 3, .getfield 21, 6, 3, 2, 93, 0, []),
  (15, 1, .aload_n 0, 0, 0, 0, 0, 0, []),
  (16, 3, .getfield 35, 6, 6, 0, 96, 0, []),
  (19, 1, .iaload, 0, 0, 0, 0, 0, []),
  (20, 3, .invokestatic 115, mR_kindOf, 1, 0, 151, 0, [(0, 1)]),
  (23, 1, .iconst 2, 0, 0, 0, 0, 2, []),
  (24, 3, .if_icmp .ne 7, 31, 0, 0, 0, 0, []),
  (27, 1, .iconst 1, 0, 0, 0, 0, 1, []),
  (28, 3, .goto 4, 32, 0, 0, 0, 0, []),
  (31, 1, .iconst 0, 0, 0, 0, 0, 0, []),
  (32, 1, .ireturn, 0, 0, 1, 0, 0, [])]
theorem ckR_isAtLetter : cdR_isAtLetter.all (rowOK mR_isAtLetter) = true := by decide +kernel
def cdR_kindOf : List Row := [
  (0, 1, .iload_n 0, 0, 0, 0, 0, 0, []),
  (1, 2, .bipush 97, 0, 0, 0, 0, 97, []),
  (3, 3, .if_icmp .lt 11, 14, 0, 0, 0, 0, []),
  (6, 1, .iload_n 0, 0, 0, 0, 0, 0, []),
  (7, 2, .bipush 122, 0, 0, 0, 0, 122, []),
  (9, 3, .if_icmp .gt 5, 14, 0, 0, 0, 0, []),
  (12, 1, .iconst 2, 0, 0, 0, 0, 2, []),
  (13, 1, .ireturn, 0, 0, 0, 0, 0, []),
  (14, 1, .iload_n 0, 0, 0, 0, 0, 0, []),
  (15, 2, .bipush 48, 0, 0, 0, 0, 48, []),
  (17, 3, .if_icmp .lt 11, 28, 0, 0, 0, 0, []),
  (20, 1, .iload_n 0, 0, 0, 0, 0, 0, []),
  (21, 2, .bipush 57, 0, 0, 0, 0, 57, []),
  (23, 3, .if_icmp .gt 5, 28, 0, 0, 0, 0, []),
  (26, 1, .iconst 3, 0, 0, 0, 0, 3, []),
  (27, 1, .ireturn, 0, 0, 0, 0, 0, []),
  (28, 1, .iload_n 0, 0, 0, 0, 0, 0, []),
  (29, 2, .bipush 59, 0, 0, 0, 0, 59, []),
  (31, 3, .if_icmp .ne 7, 38, 0, 0, 0, 0, []),
  (34, 1, .iconst 4, 0, 0, 0, 0, 4, []),
  (35, 3, .goto 4, 39, 0, 0, 0, 0, []),
  (38, 1, .iconst 0, 0, 0, 0, 0, 0, []),
  (39, 1, .ireturn, 0, 0, 0, 0, 0, [])]
theorem ckR_kindOf : cdR_kindOf.all (rowOK mR_kindOf) = true := by decide +kernel
def cdT_clear : List Row := [
  (0, 1, .aload_n 0, 0, 0, 0, 0, 0, []),
  (1, 1, .iconst 0, 0, 0, 0, 0, 0, []),
  (2, 3, .putfield 20, 8, 3, 0, 106, 0, []),
  (5, 1, .return_, 0, 0, 0, 0, 0, [])]
theorem ckT_clear : cdT_clear.all (rowOK mT_clear) = true := by decide +kernel
def cdT_add : List Row := [
  (0, 1, .aload_n 0, 0, 0, 0, 0, 0, []),
  (1, 1, .aload_n 0, 0, 0, 0, 0, 0, []),
  (2, 3, .getfield 16, 8, 2, 0, 105, 0, []),
  (5, 1, .iconst 1, 0, 0, 0, 0, 1, []),
  (6, 1, .iadd, 0, 0, 0, 0, 0, []),
  (7, 2, .bipush 20, 0, 0, 0, 0, 20, []),
  (9, 1, .irem, 0, 0, 0, 0, 0, []),
  (10, 3, .putfield 16, 8, 2, 0, 105, 0, []),
  (13, 1, .aload_n 0, 0, 0, 0, 0, 0, []),
  (14, 3, .getfield 9, 8, 0, 2, 103, 0, []),
  (17, 1, .aload_n 0, 0, 0, 0, 0, 0, []),
  (18, 3, .getfield 16, 8, 2, 0, 105, 0, []),
  (21, 1, .iload_n 1, 0, 0, 0, 0, 0, []),
  (22, 1, .iastore, 0, 0, 0, 0, 0, []),
  (23, 1, .aload_n 0, 0, 0, 0, 0, 0, []),
  (24, 3, .getfield 13, 8, 1, 2, 104, 0, []),
  (27, 1, .aload_n 0, 0, 0, 0, 0, 0, []),
  (28, 3, .getfield 16, 8, 2, 0, 105, 0, []),
  (31, 1, .iload_n 2, 0, 0, 0, 0, 0, []),
  (32, 1, .iastore, 0, 0, 0, 0, 0, []),
  (33, 1, .aload_n 0, 0, 0, 0, 0, 0, []),
  (34, 1, .aload_n 0, 0, 0, 0, 0, 0, []),
  (35, 3, .getfield 20, 8, 3, 0, 106, 0, []),
  (38, 1, .iconst 1, 0, 0, 0, 0, 1, []),
  (39, 1, .iadd, 0, 0, 0, 0, 0, []),
  (40, 2, .bipush 20, 0, 0, 0, 0, 20, []),
  (42, 3, .invokestatic 23, 0, 0, 3, 153, 0, []),
  (45, 3, .putfield 20, 8, 3, 0, 106, 0, []),
  (48, 1, .return_, 0, 0, 0, 0, 0, [])]
theorem ckT_add : cdT_add.all (rowOK mT_add) = true := by decide +kernel
def cdT_movedAt : List Row := [
  (0, 1, .aload_n 0, 0, 0, 0, 0, 0, []),
  (1, 3, .getfield 9, 8, 0, 2, 103, 0, []),
  (4, 1, .aload_n 0, 0, 0, 0, 0, 0, []),
  (5, 3, .getfield 16, 8, 2, 0, 105, 0, []),
  (8, 1, .iload_n 1, 0, 0, 0, 0, 0, []),
  (9, 1, .isub, 0, 0, 0, 0, 0, []),
  (10, 2, .bipush 20, 0, 0, 0, 0, 20, []),
  (12, 3, .invokestatic 29, mJm_floorMod, 2, 0, 154, 0, [(0, 1)]),
  (15, 1, .iaload, 0, 0, 0, 0, 0, []),
  (16, 1, .ireturn, 0, 0, 0, 0, 0, [])]
theorem ckT_movedAt : cdT_movedAt.all (rowOK mT_movedAt) = true := by decide +kernel
def cdT_costAt : List Row := [
  (0, 1, .aload_n 0, 0, 0, 0, 0, 0, []),
  (1, 3, .getfield 13, 8, 1, 2, 104, 0, []),
  (4, 1, .aload_n 0, 0, 0, 0, 0, 0, []),
  (5, 3, .getfield 16, 8, 2, 0, 105, 0, []),
  (8, 1, .iload_n 1, 0, 0, 0, 0, 0, []),
  (9, 1, .isub, 0, 0, 0, 0, 0, []),
  (10, 2, .bipush 20, 0, 0, 0, 0, 20, []),
  (12, 3, .invokestatic 29, mJm_floorMod, 2, 0, 154, 0, [(0, 1)]),
  (15, 1, .iaload, 0, 0, 0, 0, 0, []),
  (16, 1, .ireturn, 0, 0, 0, 0, 0, [])]
theorem ckT_costAt : cdT_costAt.all (rowOK mT_costAt) = true := by decide +kernel
def cdA_forget : List Row := [
  (0, 1, .aload_n 0, 0, 0, 0, 0, 0, []),
  (1, 1, .iconst 0, 0, 0, 0, 0, 0, []),
  (2, 3, .putfield 38, 0, 6, 3, 113, 0, []),
  (5, 1, .aload_n 0, 0, 0, 0, 0, 0, []),
  (6, 1, .iconst 0, 0, 0, 0, 0, 0, []),
  (7, 3, .putfield 42, 0, 7, 3, 114, 0, []),
  (10, 1, .return_, 0, 0, 0, 0, 0, [])]
theorem ckA_forget : cdA_forget.all (rowOK mA_forget) = true := by decide +kernel
def cdA_lookOne : List Row := [
  (0, 1, .aload_n 0, 0, 0, 0, 0, 0, []),
  (1, 3, .getfield 38, 0, 6, 3, 113, 0, []),
  (4, 3, .ifCond .eq 4, 8, 0, 0, 0, 0, []),
  (7, 1, .return_, 0, 0, 0, 0, 0, []),
  (8, 1, .aload_n 0, 0, 0, 0, 0, 0, []),
  (9, 3, .getfield 28, 0, 4, 2, 111, 0, []),
  (12, 1, .aload_n 1, 0, 0, 0, 0, 0, []),
  (13, 3, .invokevirtual 45, mS_copy, 1, 7, 157, 0, [(0, 0)]),
  (16, 1, .aload_n 0, 0, 0, 0, 0, 0, []),
  (17, 3, .getfield 34, 0, 5, 2, 112, 0, []),
  (20, 1, .aload_n 0, 0, 0, 0, 0, 0, []),
  (21, 3, .getfield 28, 0, 4, 2, 111, 0, []),
  (24, 3, .invokevirtual 49, mF_survey, 1, 2, 158, 0, [(0, 0)]),
  (27, 1, .aload_n 0, 0, 0, 0, 0, 0, []),
  (28, 1, .aload_n 0, 0, 0, 0, 0, 0, []),
  (29, 3, .getfield 34, 0, 5, 2, 112, 0, []),
  (32, 1, .aload_n 0, 0, 0, 0, 0, 0, []),
  (33, 3, .getfield 28, 0, 4, 2, 111, 0, []),
  (36, 3, .invokevirtual 52, mF_round, 1, 2, 159, 0, [(0, 1)]),
  (39, 3, .putfield 18, 0, 1, 0, 108, 0, []),
  (42, 1, .aload_n 0, 0, 0, 0, 0, 0, []),
  (43, 3, .getfield 12, 0, 0, 2, 107, 0, []),
  (46, 1, .aload_n 0, 0, 0, 0, 0, 0, []),
  (47, 3, .getfield 28, 0, 4, 2, 111, 0, []),
  (50, 3, .invokevirtual 45, mS_copy, 1, 7, 157, 0, [(0, 0)]),
  (53, 1, .aload_n 0, 0, 0, 0, 0, 0, []),
  (54, 1, .iconst 1, 0, 0, 0, 0, 1, []),
  (55, 3, .putfield 38, 0, 6, 3, 113, 0, []),
  (58, 1, .aload_n 0, 0, 0, 0, 0, 0, []),
  (59, 1, .iconst 0, 0, 0, 0, 0, 0, []),
  (60, 3, .putfield 42, 0, 7, 3, 114, 0, []),
  (63, 1, .return_, 0, 0, 0, 0, 0, [])]
theorem ckA_lookOne : cdA_lookOne.all (rowOK mA_lookOne) = true := by decide +kernel
def cdA_lookToEnd : List Row := [
  (0, 1, .aload_n 0, 0, 0, 0, 0, 0, []),
  (1, 1, .aload_n 1, 0, 0, 0, 0, 0, []),
  (2, 3, .invokevirtual 56, mA_lookOne, 1, 0, 160, 0, [(0, 0)]),
  (5, 1, .aload_n 0, 0, 0, 0, 0, 0, []),
  (6, 3, .getfield 42, 0, 7, 3, 114, 0, []),
  (9, 3, .ifCond .eq 4, 13, 0, 0, 0, 0, []),
  (12, 1, .return_, 0, 0, 0, 0, 0, []),
  (13, 1, .iconst 1, 0, 0, 0, 0, 1, []),
  (14, 1, .istore_n 2, 0, 0, 0, 0, 0, []),
  (15, 1, .aload_n 0, 0, 0, 0, 0, 0, []),
  (16, 3, .getfield 18, 0, 1, 0, 108, 0, []),
  (19, 1, .istore_n 3, 0, 0, 0, 0, 0, []),
  (20, 1, .iload_n 2, 0, 0, 0, 0, 0, []),
  (21, 3, .sipush 200, 0, 0, 0, 0, 200, []),
  (24, 3, .if_icmp .ge 25, 49, 0, 0, 0, 0, []),
  (27, 1, .iload_n 3, 0, 0, 0, 0, 0, []),
  (28, 3, .ifCond .eq 21, 49, 0, 0, 0, 0, []),
  (31, 1, .aload_n 0, 0, 0, 0, 0, 0, []),
  (32, 3, .getfield 34, 0, 5, 2, 112, 0, []),
  (35, 1, .aload_n 0, 0, 0, 0, 0, 0, []),
  (36, 3, .getfield 28, 0, 4, 2, 111, 0, []),
  (39, 3, .invokevirtual 52, mF_round, 1, 2, 159, 0, [(0, 1)]),
  (42, 1, .istore_n 3, 0, 0, 0, 0, 0, []),
  (43, 3, .iinc 2 1, 0, 0, 0, 0, 1, []),
  (46, 3, .goto (-26), 20, 0, 0, 0, 0, []),
  (49, 1, .aload_n 0, 0, 0, 0, 0, 0, []),
  (50, 1, .iload_n 3, 0, 0, 0, 0, 0, []),
  (51, 3, .ifCond .ne 7, 58, 0, 0, 0, 0, []),
  (54, 1, .iload_n 2, 0, 0, 0, 0, 0, []),
  (55, 3, .goto 4, 59, 0, 0, 0, 0, []),
  (58, 1, .iconst (-1), 0, 0, 0, 0, (-1), []),
  (59, 3, .putfield 22, 0, 2, 0, 109, 0, []),
  (62, 1, .aload_n 0, 0, 0, 0, 0, 0, []),
  (63, 1, .iload_n 3, 0, 0, 0, 0, 0, []),
  (64, 3, .ifCond .ne 13, 77, 0, 0, 0, 0, []),
  (67, 1, .aload_n 0, 0, 0, 0, 0, 0, []),
  (68, 3, .getfield 34, 0, 5, 2, 112, 0, []),
  (71, 3, .getfield 59, 2, 9, 0, 115, 0, []),
  (74, 3, .goto 4, 78, 0, 0, 0, 0, []),
  (77, 1, .iconst (-1), 0, 0, 0, 0, (-1), []),
  (78, 3, .putfield 25, 0, 3, 0, 110, 0, []),
  (81, 1, .aload_n 0, 0, 0, 0, 0, 0, []),
  (82, 1, .iconst 1, 0, 0, 0, 0, 1, []),
  (83, 3, .putfield 42, 0, 7, 3, 114, 0, []),
  (86, 1, .return_, 0, 0, 0, 0, 0, [])]
theorem ckA_lookToEnd : cdA_lookToEnd.all (rowOK mA_lookToEnd) = true := by decide +kernel
def cdB_keep : List Row := [
  (0, 1, .aload_n 0, 0, 0, 0, 0, 0, []),
  (1, 3, .getfield 18, 1, 1, 2, 117, 0, []),
  (4, 1, .aload_n 1, 0, 0, 0, 0, 0, []),
  (5, 3, .invokevirtual 26, mS_copy, 1, 7, 162, 0, [(0, 0)]),
  (8, 1, .aload_n 2, 0, 0, 0, 0, 0, []),
  (9, 3, .getfield 30, 2, 0, 2, 119, 0, []),
  (12, 1, .iconst 0, 0, 0, 0, 0, 0, []),
  (13, 1, .aload_n 0, 0, 0, 0, 0, 0, []),
  (14, 3, .getfield 22, 1, 2, 2, 118, 0, []),
  (17, 1, .iconst 0, 0, 0, 0, 0, 0, []),
  (18, 3, .sipush 400, 0, 0, 0, 0, 400, []),
  (21, 3, .invokestatic 33, 0, 0, 2, 1, 0, []),
  (24, 1, .aload_n 0, 0, 0, 0, 0, 0, []),
  (25, 1, .iconst 1, 0, 0, 0, 0, 1, []),
  (26, 3, .putfield 9, 1, 0, 3, 116, 0, []),
  (29, 1, .return_, 0, 0, 0, 0, 0, [])]
theorem ckB_keep : cdB_keep.all (rowOK mB_keep) = true := by decide +kernel
def cdB_otherOwners : List Row := [
  (0, 1, .iconst 0, 0, 0, 0, 0, 0, []),
  (1, 1, .istore_n 3, 0, 0, 0, 0, 0, []),
  (2, 1, .iconst 0, 0, 0, 0, 0, 0, []),
  (3, 2, .istore 4, 0, 0, 0, 0, 0, []),
  (5, 2, .iload 4, 0, 0, 0, 0, 0, []),
  (7, 1, .aload_n 1, 0, 0, 0, 0, 0, []),
  (8, 3, .invokevirtual 39, mS_size, 0, 7, 163, 0, [(0, 1)]),
  (11, 3, .if_icmp .ge 29, 40, 0, 0, 0, 0, []),
  (14, 1, .aload_n 2, 0, 0, 0, 0, 0, []),
  (15, 3, .getfield 30, 2, 0, 2, 119, 0, []),
  (18, 2, .iload 4, 0, 0, 0, 0, 0, []),
  (20, 1, .iaload, 0, 0, 0, 0, 0, []),
  (21, 1, .aload_n 0, 0, 0, 0, 0, 0, []),
  (22, 3, .getfield 22, 1, 2, 2, 118, 0, []),
  (25, 2, .iload 4, 0, 0, 0, 0, 0, []),
  (27, 1, .iaload, 0, 0, 0, 0, 0, []),
  (28, 3, .if_icmp .eq 6, 34, 0, 0, 0, 0, []),
  (31, 3, .iinc 3 1, 0, 0, 0, 0, 1, []),
  (34, 3, .iinc 4 1, 0, 0, 0, 0, 1, []),
  (37, 3, .goto (-32), 5, 0, 0, 0, 0, []),
  (40, 1, .iload_n 3, 0, 0, 0, 0, 0, []),
  (41, 1, .ireturn, 0, 0, 0, 0, 0, [])]
theorem ckB_otherOwners : cdB_otherOwners.all (rowOK mB_otherOwners) = true := by decide +kernel
def cdB_otherWeights : List Row := [
  (0, 1, .iconst 0, 0, 0, 0, 0, 0, []),
  (1, 1, .istore_n 2, 0, 0, 0, 0, 0, []),
  (2, 1, .iconst 0, 0, 0, 0, 0, 0, []),
  (3, 1, .istore_n 3, 0, 0, 0, 0, 0, []),
  (4, 1, .iload_n 3, 0, 0, 0, 0, 0, []),
  (5, 1, .aload_n 1, 0, 0, 0, 0, 0, []),
  (6, 3, .invokevirtual 39, mS_size, 0, 7, 163, 0, [(0, 1)]),
  (9, 3, .if_icmp .ge 30, 39, 0, 0, 0, 0, []),
  (12, 1, .aload_n 1, 0, 0, 0, 0, 0, []),
  (13, 3, .getfield 43, 7, 4, 2, 120, 0, []),
  (16, 1, .iload_n 3, 0, 0, 0, 0, 0, []),
  (17, 1, .iaload, 0, 0, 0, 0, 0, []),
  (18, 1, .aload_n 0, 0, 0, 0, 0, 0, []),
  (19, 3, .getfield 18, 1, 1, 2, 117, 0, []),
  (22, 3, .getfield 43, 7, 4, 2, 120, 0, []),
  (25, 1, .iload_n 3, 0, 0, 0, 0, 0, []),
  (26, 1, .iaload, 0, 0, 0, 0, 0, []),
  (27, 3, .if_icmp .eq 6, 33, 0, 0, 0, 0, []),
  (30, 3, .iinc 2 1, 0, 0, 0, 0, 1, []),
  (33, 3, .iinc 3 1, 0, 0, 0, 0, 1, []),
  (36, 3, .goto (-32), 4, 0, 0, 0, 0, []),
  (39, 1, .iload_n 2, 0, 0, 0, 0, 0, []),
  (40, 1, .ireturn, 0, 0, 0, 0, 0, [])]
theorem ckB_otherWeights : cdB_otherWeights.all (rowOK mB_otherWeights) = true := by decide +kernel
def cdB_otherDots : List Row := [
  (0, 1, .iconst 0, 0, 0, 0, 0, 0, []),
  (1, 1, .istore_n 2, 0, 0, 0, 0, 0, []),
  (2, 1, .iconst 0, 0, 0, 0, 0, 0, []),
  (3, 1, .istore_n 3, 0, 0, 0, 0, 0, []),
  (4, 1, .iload_n 3, 0, 0, 0, 0, 0, []),
  (5, 1, .aload_n 1, 0, 0, 0, 0, 0, []),
  (6, 3, .getfield 46, 7, 2, 0, 121, 0, []),
  (9, 3, .if_icmp .ge 35, 44, 0, 0, 0, 0, []),
  (12, 1, .iload_n 3, 0, 0, 0, 0, 0, []),
  (13, 1, .aload_n 0, 0, 0, 0, 0, 0, []),
  (14, 3, .getfield 18, 1, 1, 2, 117, 0, []),
  (17, 3, .getfield 46, 7, 2, 0, 121, 0, []),
  (20, 3, .if_icmp .ge 24, 44, 0, 0, 0, 0, []),
  (23, 1, .aload_n 1, 0, 0, 0, 0, 0, []),
  (24, 1, .iload_n 3, 0, 0, 0, 0, 0, []),
  (25, 1, .aload_n 0, 0, 0, 0, 0, 0, []),
  (26, 3, .getfield 18, 1, 1, 2, 117, 0, []),
  (29, 3, .invokevirtual 50, mS_liesAsIn, 2, 7, 164, 0, [(0, 1)]),
  (32, 3, .ifCond .ne 6, 38, 0, 0, 0, 0, []),
  (35, 3, .iinc 2 1, 0, 0, 0, 0, 1, []),
  (38, 3, .iinc 3 1, 0, 0, 0, 0, 1, []),
  (41, 3, .goto (-37), 4, 0, 0, 0, 0, []),
  (44, 1, .iload_n 2, 0, 0, 0, 0, 0, []),
  (45, 1, .ireturn, 0, 0, 0, 0, 0, [])]
theorem ckB_otherDots : cdB_otherDots.all (rowOK mB_otherDots) = true := by decide +kernel
def cdJm_floorMod : List Row := [
  (0, 1, .iload_n 0, 0, 0, 0, 0, 0, []),
  (1, 1, .iload_n 1, 0, 0, 0, 0, 0, []),
  (2, 1, .irem, 0, 0, 0, 0, 0, []),
  (3, 1, .istore_n 2, 0, 0, 0, 0, 0, []),
  (4, 1, .iload_n 0, 0, 0, 0, 0, 0, []),
  (5, 1, .iload_n 1, 0, 0, 0, 0, 0, []),
  (6, 1, .ixor, 0, 0, 0, 0, 0, []),
  (7, 3, .ifCond .ge 11, 18, 0, 0, 0, 0, []),
  (10, 1, .iload_n 2, 0, 0, 0, 0, 0, []),
  (11, 3, .ifCond .eq 7, 18, 0, 0, 0, 0, []),
  (14, 1, .iload_n 2, 0, 0, 0, 0, 0, []),
  (15, 1, .iload_n 1, 0, 0, 0, 0, 0, []),
  (16, 1, .iadd, 0, 0, 0, 0, 0, []),
  (17, 1, .ireturn, 0, 0, 0, 0, 0, []),
  (18, 1, .iload_n 2, 0, 0, 0, 0, 0, []),
  (19, 1, .ireturn, 0, 0, 0, 0, 0, [])]
theorem ckJm_floorMod : cdJm_floorMod.all (rowOK mJm_floorMod) = true := by decide +kernel
def cdJm_abs : List Row := [
  (0, 1, .iload_n 0, 0, 0, 0, 0, 0, []),
  (1, 3, .ifCond .ge 8, 9, 0, 0, 0, 0, []),
  (4, 1, .iload_n 0, 0, 0, 0, 0, 0, []),
  (5, 1, .ineg, 0, 0, 0, 0, 0, []),
  (6, 3, .goto 4, 10, 0, 0, 0, 0, []),
  (9, 1, .iload_n 0, 0, 0, 0, 0, 0, []),
  (10, 1, .ireturn, 0, 0, 0, 0, 0, [])]
theorem ckJm_abs : cdJm_abs.all (rowOK mJm_abs) = true := by decide +kernel
def cdJm_max : List Row := [
  (0, 1, .iload_n 0, 0, 0, 0, 0, 0, []),
  (1, 1, .iload_n 1, 0, 0, 0, 0, 0, []),
  (2, 3, .if_icmp .lt 7, 9, 0, 0, 0, 0, []),
  (5, 1, .iload_n 0, 0, 0, 0, 0, 0, []),
  (6, 3, .goto 4, 10, 0, 0, 0, 0, []),
  (9, 1, .iload_n 1, 0, 0, 0, 0, 0, []),
  (10, 1, .ireturn, 0, 0, 0, 0, 0, [])]
theorem ckJm_max : cdJm_max.all (rowOK mJm_max) = true := by decide +kernel
def cdJm_min : List Row := [
  (0, 1, .iload_n 0, 0, 0, 0, 0, 0, []),
  (1, 1, .iload_n 1, 0, 0, 0, 0, 0, []),
  (2, 3, .if_icmp .gt 7, 9, 0, 0, 0, 0, []),
  (5, 1, .iload_n 0, 0, 0, 0, 0, 0, []),
  (6, 3, .goto 4, 10, 0, 0, 0, 0, []),
  (9, 1, .iload_n 1, 0, 0, 0, 0, 0, []),
  (10, 1, .ireturn, 0, 0, 0, 0, 0, [])]
theorem ckJm_min : cdJm_min.all (rowOK mJm_min) = true := by decide +kernel
def cdJa_fillL : List Row := [
  (0, 1, .iconst 0, 0, 0, 0, 0, 0, []),
  (1, 1, .istore_n 3, 0, 0, 0, 0, 0, []),
  (2, 1, .aload_n 0, 0, 0, 0, 0, 0, []),
  (3, 1, .arraylength, 0, 0, 0, 0, 0, []),
  (4, 2, .istore 4, 0, 0, 0, 0, 0, []),
  (6, 1, .iload_n 3, 0, 0, 0, 0, 0, []),
  (7, 2, .iload 4, 0, 0, 0, 0, 0, []),
  (9, 3, .if_icmp .ge 13, 22, 0, 0, 0, 0, []),
  (12, 1, .aload_n 0, 0, 0, 0, 0, 0, []),
  (13, 1, .iload_n 3, 0, 0, 0, 0, 0, []),
  (14, 1, .lload_n 1, 0, 0, 0, 0, 0, []),
  (15, 1, .lastore, 0, 0, 0, 0, 0, []),
  (16, 3, .iinc 3 1, 0, 0, 0, 0, 1, []),
  (19, 3, .goto (-13), 6, 0, 0, 0, 0, []),
  (22, 1, .return_, 0, 0, 0, 0, 0, [])]
theorem ckJa_fillL : cdJa_fillL.all (rowOK mJa_fillL) = true := by decide +kernel
def cdJa_fillI : List Row := [
  (0, 1, .iconst 0, 0, 0, 0, 0, 0, []),
  (1, 1, .istore_n 2, 0, 0, 0, 0, 0, []),
  (2, 1, .aload_n 0, 0, 0, 0, 0, 0, []),
  (3, 1, .arraylength, 0, 0, 0, 0, 0, []),
  (4, 1, .istore_n 3, 0, 0, 0, 0, 0, []),
  (5, 1, .iload_n 2, 0, 0, 0, 0, 0, []),
  (6, 1, .iload_n 3, 0, 0, 0, 0, 0, []),
  (7, 3, .if_icmp .ge 13, 20, 0, 0, 0, 0, []),
  (10, 1, .aload_n 0, 0, 0, 0, 0, 0, []),
  (11, 1, .iload_n 2, 0, 0, 0, 0, 0, []),
  (12, 1, .iload_n 1, 0, 0, 0, 0, 0, []),
  (13, 1, .iastore, 0, 0, 0, 0, 0, []),
  (14, 3, .iinc 2 1, 0, 0, 0, 0, 1, []),
  (17, 3, .goto (-12), 5, 0, 0, 0, 0, []),
  (20, 1, .return_, 0, 0, 0, 0, 0, [])]
theorem ckJa_fillI : cdJa_fillI.all (rowOK mJa_fillI) = true := by decide +kernel
end
section
/-! ===== code as rows ===== -/
def cdC_feed : List Row := [
  (0, 1, .aload_n 0, 0, 0, 0, 0, 0, []),
  (1, 3, .getfield 30, 9, 3, 2, 3, 0, []),
  (4, 3, .invokevirtual 87, mR_hasRoom, 0, 6, 9, 0, [(0, 1)]),
  (7, 3, .ifCond .ne 5, 12, 0, 0, 0, 0, []),
  (10, 1, .iconst (-1), 0, 0, 0, 0, (-1), []),
  (11, 1, .ireturn, 0, 0, 0, 0, 0, []),
  (12, 1, .aload_n 0, 0, 0, 0, 0, 0, []),
  (13, 3, .getfield 30, 9, 3, 2, 3, 0, []),
  (16, 1, .iload_n 1, 0, 0, 0, 0, 0, []),
  (17, 3, .invokevirtual 91, mR_append, 1, 6, 10, 0, [(0, 0)]),
  (20, 1, .aload_n 0, 0, 0, 0, 0, 0, []),
  (21, 3, .getfield 30, 9, 3, 2, 3, 0, []),
  (24, 1, .iload_n 2, 0, 0, 0, 0, 0, []),
  (25, 3, .invokevirtual 91, mR_append, 1, 6, 10, 0, [(0, 0)]),
  (28, 1, .aload_n 0, 0, 0, 0, 0, 0, []),
  (29, 3, .getfield 30, 9, 3, 2, 3, 0, []),
  (32, 1, .iload_n 3, 0, 0, 0, 0, 0, []),
  (33, 3, .invokevirtual 91, mR_append, 1, 6, 10, 0, [(0, 0)]),
  (36, 1, .aload_n 0, 0, 0, 0, 0, 0, []),
  (37, 3, .getfield 30, 9, 3, 2, 3, 0, []),
  (40, 2, .iload 4, 0, 0, 0, 0, 0, []),
  (42, 3, .invokevirtual 91, mR_append, 1, 6, 10, 0, [(0, 0)]),
  (45, 1, .aload_n 0, 0, 0, 0, 0, 0, []),
  (46, 3, .getfield 30, 9, 3, 2, 3, 0, []),
  (49, 2, .iload 5, 0, 0, 0, 0, 0, []),
  (51, 3, .invokevirtual 91, mR_append, 1, 6, 10, 0, [(0, 0)]),
  (54, 1, .aload_n 0, 0, 0, 0, 0, 0, []),
  (55, 3, .getfield 30, 9, 3, 2, 3, 0, []),
  (58, 3, .getfield 95, 6, 0, 0, 13, 0, []),
  (61, 1, .ireturn, 0, 0, 0, 0, 0, [])]
theorem ckC_feed : cdC_feed.all (rowOK mC_feed) = true := by decide +kernel
def cdC_end : List Row := [
  (0, 1, .iload_n 1, 0, 0, 0, 0, 0, []),
  (1, 3, .ifCond .lt 14, 15, 0, 0, 0, 0, []),
  (4, 1, .iload_n 1, 0, 0, 0, 0, 0, []),
  (5, 1, .aload_n 0, 0, 0, 0, 0, 0, []),
  (6, 3, .getfield 30, 9, 3, 2, 3, 0, []),
  (9, 3, .getfield 95, 6, 0, 0, 13, 0, []),
  (12, 3, .if_icmp .le 5, 17, 0, 0, 0, 0, []),
  (15, 1, .iconst (-1), 0, 0, 0, 0, (-1), []),
  (16, 1, .ireturn, 0, 0, 0, 0, 0, []),
  (17, 1, .aload_n 0, 0, 0, 0, 0, 0, []),
  (18, 3, .getfield 30, 9, 3, 2, 3, 0, []),
  (21, 1, .iload_n 1, 0, 0, 0, 0, 0, []),
  (22, 3, .putfield 95, 6, 0, 0, 13, 0, []),
  (25, 1, .iload_n 1, 0, 0, 0, 0, 0, []),
  (26, 1, .ireturn, 0, 0, 0, 0, 0, [])]
theorem ckC_end : cdC_end.all (rowOK mC_end) = true := by decide +kernel
def cdC_picture : List Row := [
  (0, 1, .aload_n 0, 0, 0, 0, 0, 0, []),
  (1, 3, .getfield 30, 9, 3, 2, 3, 0, []),
  (4, 3, .invokevirtual 99, mR_read, 0, 6, 11, 0, [(0, 1)]),
  (7, 3, .ifCond .ne 5, 12, 0, 0, 0, 0, []),
  (10, 1, .iconst (-1), 0, 0, 0, 0, (-1), []),
  (11, 1, .ireturn, 0, 0, 0, 0, 0, []),
  (12, 1, .aload_n 0, 0, 0, 0, 0, 0, []),
  (13, 1, .aload_n 0, 0, 0, 0, 0, 0, []),
  (14, 3, .getfield 30, 9, 3, 2, 3, 0, []),
  (17, 1, .aload_n 0, 0, 0, 0, 0, 0, []),
  (18, 3, .getfield 10, 9, 0, 2, 0, 0, []),
  (21, 3, .invokevirtual 102, mR_handOver, 1, 6, 12, 0, [(0, 3)]),
  (24, 3, .putfield 10, 9, 0, 2, 0, 0, []),
  (27, 1, .iconst 0, 0, 0, 0, 0, 0, []),
  (28, 1, .istore_n 1, 0, 0, 0, 0, 0, []),
  (29, 1, .iload_n 1, 0, 0, 0, 0, 0, []),
  (30, 1, .iconst 2, 0, 0, 0, 0, 2, []),
  (31, 3, .if_icmp .ge 19, 50, 0, 0, 0, 0, []),
  (34, 1, .aload_n 0, 0, 0, 0, 0, 0, []),
  (35, 3, .getfield 71, 9, 9, 2, 9, 0, []),
  (38, 1, .iload_n 1, 0, 0, 0, 0, 0, []),
  (39, 1, .aaload, 0, 0, 4, 0, 0, []),
  (40, 1, .iconst 0, 0, 0, 0, 0, 0, []),
  (41, 3, .putfield 106, 1, 0, 3, 14, 0, []),
  (44, 3, .iinc 1 1, 0, 0, 0, 0, 1, []),
  (47, 3, .goto (-18), 29, 0, 0, 0, 0, []),
  (50, 1, .aload_n 0, 0, 0, 0, 0, 0, []),
  (51, 3, .invokevirtual 109, mC_startAnew, 0, 9, 13, 0, [(0, 0)]),
  (54, 1, .aload_n 0, 0, 0, 0, 0, 0, []),
  (55, 3, .getfield 10, 9, 0, 2, 0, 0, []),
  (58, 3, .getfield 112, 7, 2, 0, 15, 0, []),
  (61, 1, .ireturn, 0, 0, 0, 0, 0, [])]
theorem ckC_picture : cdC_picture.all (rowOK mC_picture) = true := by decide +kernel
def cdC_fault : List Row := [
  (0, 1, .iload_n 1, 0, 0, 0, 0, 0, []),
  (1, 27, .lookupswitch 43 #[(0, 27), (1, 35)], 44, 0, 0, 0, 0, [(0, 28), (1, 36)]),
  (28, 1, .aload_n 0, 0, 0, 0, 0, 0, []),
  (29, 3, .getfield 30, 9, 3, 2, 3, 0, []),
  (32, 3, .getfield 115, 6, 1, 0, 16, 0, []),
  (35, 1, .ireturn, 0, 0, 0, 0, 0, []),
  (36, 1, .aload_n 0, 0, 0, 0, 0, 0, []),
  (37, 3, .getfield 30, 9, 3, 2, 3, 0, []),
  (40, 3, .getfield 118, 6, 2, 0, 17, 0, []),
  (43, 1, .ireturn, 0, 0, 0, 0, 0, []),
  (44, 1, .iconst (-1), 0, 0, 0, 0, (-1), []),
  (45, 1, .ireturn, 0, 0, 0, 0, 0, [])]
theorem ckC_fault : cdC_fault.all (rowOK mC_fault) = true := by decide +kernel
def cdC_put : List Row := [
  (0, 1, .aload_n 0, 0, 0, 0, 0, 0, []),
  (1, 3, .getfield 10, 9, 0, 2, 0, 0, []),
  (4, 1, .iload_n 1, 0, 0, 0, 0, 0, []),
  (5, 1, .iload_n 2, 0, 0, 0, 0, 0, []),
  (6, 3, .invokevirtual 121, mS_holds, 2, 7, 14, 0, [(0, 1)]),
  (9, 3, .ifCond .eq 15, 24, 0, 0, 0, 0, []),
  (12, 1, .aload_n 0, 0, 0, 0, 0, 0, []),
  (13, 3, .getfield 10, 9, 0, 2, 0, 0, []),
  (16, 3, .getfield 112, 7, 2, 0, 15, 0, []),
  (19, 2, .bipush 40, 0, 0, 0, 0, 40, []),
  (21, 3, .if_icmp .lt 5, 26, 0, 0, 0, 0, []),
  (24, 1, .iconst (-1), 0, 0, 0, 0, (-1), []),
  (25, 1, .ireturn, 0, 0, 0, 0, 0, []),
  (26, 1, .aload_n 0, 0, 0, 0, 0, 0, []),
  (27, 3, .invokevirtual 125, mC_beginAct, 0, 9, 15, 0, [(0, 3)]),
  (30, 1, .pop, 0, 0, 0, 0, 0, []),
  (31, 1, .aload_n 0, 0, 0, 0, 0, 0, []),
  (32, 3, .getfield 10, 9, 0, 2, 0, 0, []),
  (35, 1, .iload_n 1, 0, 0, 0, 0, 0, []),
  (36, 1, .iload_n 2, 0, 0, 0, 0, 0, []),
  (37, 3, .invokevirtual 129, mS_add, 2, 7, 16, 0, [(0, 0)]),
  (40, 1, .aload_n 0, 0, 0, 0, 0, 0, []),
  (41, 3, .getfield 10, 9, 0, 2, 0, 0, []),
  (44, 3, .getfield 112, 7, 2, 0, 15, 0, []),
  (47, 1, .iconst 1, 0, 0, 0, 0, 1, []),
  (48, 1, .isub, 0, 0, 0, 0, 0, []),
  (49, 1, .ireturn, 0, 0, 0, 0, 0, [])]
theorem ckC_put : cdC_put.all (rowOK mC_put) = true := by decide +kernel
def cdC_take : List Row := [
  (0, 1, .aload_n 0, 0, 0, 0, 0, 0, []),
  (1, 3, .getfield 10, 9, 0, 2, 0, 0, []),
  (4, 1, .iload_n 1, 0, 0, 0, 0, 0, []),
  (5, 3, .invokevirtual 133, mS_has, 1, 7, 17, 0, [(0, 1)]),
  (8, 3, .ifCond .ne 5, 13, 0, 0, 0, 0, []),
  (11, 1, .iconst (-1), 0, 0, 0, 0, (-1), []),
  (12, 1, .ireturn, 0, 0, 0, 0, 0, []),
  (13, 1, .aload_n 0, 0, 0, 0, 0, 0, []),
  (14, 3, .invokevirtual 125, mC_beginAct, 0, 9, 15, 0, [(0, 3)]),
  (17, 1, .pop, 0, 0, 0, 0, 0, []),
  (18, 1, .aload_n 0, 0, 0, 0, 0, 0, []),
  (19, 3, .getfield 10, 9, 0, 2, 0, 0, []),
  (22, 1, .iload_n 1, 0, 0, 0, 0, 0, []),
  (23, 3, .invokevirtual 137, mS_remove, 1, 7, 18, 0, [(0, 0)]),
  (26, 1, .aload_n 0, 0, 0, 0, 0, 0, []),
  (27, 3, .getfield 10, 9, 0, 2, 0, 0, []),
  (30, 3, .getfield 112, 7, 2, 0, 15, 0, []),
  (33, 1, .ireturn, 0, 0, 0, 0, 0, [])]
theorem ckC_take : cdC_take.all (rowOK mC_take) = true := by decide +kernel
def cdC_move : List Row := [
  (0, 1, .aload_n 0, 0, 0, 0, 0, 0, []),
  (1, 3, .getfield 10, 9, 0, 2, 0, 0, []),
  (4, 1, .iload_n 1, 0, 0, 0, 0, 0, []),
  (5, 3, .invokevirtual 133, mS_has, 1, 7, 17, 0, [(0, 1)]),
  (8, 3, .ifCond .eq 28, 36, 0, 0, 0, 0, []),
  (11, 1, .aload_n 0, 0, 0, 0, 0, 0, []),
  (12, 3, .getfield 10, 9, 0, 2, 0, 0, []),
  (15, 1, .iload_n 2, 0, 0, 0, 0, 0, []),
  (16, 1, .iload_n 3, 0, 0, 0, 0, 0, []),
  (17, 3, .invokevirtual 121, mS_holds, 2, 7, 14, 0, [(0, 1)]),
  (20, 3, .ifCond .eq 16, 36, 0, 0, 0, 0, []),
  (23, 1, .aload_n 0, 0, 0, 0, 0, 0, []),
  (24, 3, .getfield 10, 9, 0, 2, 0, 0, []),
  (27, 1, .iload_n 1, 0, 0, 0, 0, 0, []),
  (28, 1, .iload_n 2, 0, 0, 0, 0, 0, []),
  (29, 1, .iload_n 3, 0, 0, 0, 0, 0, []),
  (30, 3, .invokevirtual 140, mS_liesJustAt, 3, 7, 19, 0, [(0, 1)]),
  (33, 3, .ifCond .eq 5, 38, 0, 0, 0, 0, []),
  (36, 1, .iconst 0, 0, 0, 0, 0, 0, []),
  (37, 1, .ireturn, 0, 0, 1, 0, 0, []),
  (38, 1, .aload_n 0, 0, 0, 0, 0, 0, []),
  (39, 3, .invokevirtual 125, mC_beginAct, 0, 9, 15, 0, [(0, 3)]),
  (42, 1, .pop, 0, 0, 0, 0, 0, []),
  (43, 1, .aload_n 0, 0, 0, 0, 0, 0, []),
  (44, 3, .getfield 10, 9, 0, 2, 0, 0, []),
  (47, 1, .iload_n 1, 0, 0, 0, 0, 0, []),
  (48, 1, .iload_n 2, 0, 0, 0, 0, 0, []),
  (49, 1, .iload_n 3, 0, 0, 0, 0, 0, []),
  (50, 1, .iconst 1, 0, 0, 0, 0, 1, []),
  (51, 3, .invokevirtual 144, mS_place, 4, 7, 20, 0, [(0, 1)]),
  (54, 1, .pop, 0, 0, 0, 0, 0, []),
  (55, 1, .iconst 1, 0, 0, 0, 0, 1, []),
  (56, 1, .ireturn, 0, 0, 1, 0, 0, [])]
theorem ckC_move : cdC_move.all (rowOK mC_move) = true := by decide +kernel
def cdC_draw : List Row := [
  (0, 1, .iload_n 1, 0, 0, 0, 0, 0, []),
  (1, 1, .iconst 1, 0, 0, 0, 0, 1, []),
  (2, 3, .if_icmp .lt 23, 25, 0, 0, 0, 0, []),
  (5, 1, .iload_n 1, 0, 0, 0, 0, 0, []),
  (6, 2, .bipush 40, 0, 0, 0, 0, 40, []),
  (8, 3, .if_icmp .gt 17, 25, 0, 0, 0, 0, []),
  (11, 1, .aload_n 0, 0, 0, 0, 0, 0, []),
  (12, 3, .getfield 10, 9, 0, 2, 0, 0, []),
  (15, 3, .getfield 112, 7, 2, 0, 15, 0, []),
  (18, 1, .iload_n 1, 0, 0, 0, 0, 0, []),
  (19, 1, .iadd, 0, 0, 0, 0, 0, []),
  (20, 2, .bipush 40, 0, 0, 0, 0, 40, []),
  (22, 3, .if_icmp .le 5, 27, 0, 0, 0, 0, []),
  (25, 1, .iconst (-1), 0, 0, 0, 0, (-1), []),
  (26, 1, .ireturn, 0, 0, 0, 0, 0, []),
  (27, 1, .aload_n 0, 0, 0, 0, 0, 0, []),
  (28, 3, .getfield 10, 9, 0, 2, 0, 0, []),
  (31, 1, .aload_n 0, 0, 0, 0, 0, 0, []),
  (32, 3, .getfield 75, 9, 10, 2, 10, 0, []),
  (35, 3, .invokevirtual 147, mS_markBusy, 1, 7, 21, 0, [(0, 0)]),
  (38, 1, .aload_n 0, 0, 0, 0, 0, 0, []),
  (39, 3, .getfield 10, 9, 0, 2, 0, 0, []),
  (42, 1, .aload_n 0, 0, 0, 0, 0, 0, []),
  (43, 3, .getfield 75, 9, 10, 2, 10, 0, []),
  (46, 3, .invokevirtual 151, mS_freeGreyCells, 1, 7, 22, 0, [(0, 1)]),
  (49, 1, .iload_n 1, 0, 0, 0, 0, 0, []),
  (50, 3, .if_icmp .ge 5, 55, 0, 0, 0, 0, []),
  (53, 1, .iconst (-1), 0, 0, 0, 0, (-1), []),
  (54, 1, .ireturn, 0, 0, 0, 0, 0, []),
  (55, 1, .aload_n 0, 0, 0, 0, 0, 0, []),
  (56, 3, .invokevirtual 125, mC_beginAct, 0, 9, 15, 0, [(0, 3)]),
  (59, 1, .pop, 0, 0, 0, 0, 0, []),
  (60, 1, .iconst 0, 0, 0, 0, 0, 0, []),
  (61, 1, .istore_n 2, 0, 0, 0, 0, 0, []),
  (62, 1, .iload_n 2, 0, 0, 0, 0, 0, []),
  (63, 1, .iload_n 1, 0, 0, 0, 0, 0, []),
  (64, 3, .if_icmp .ge 20, 84, 0, 0, 0, 0, []),
  (67, 1, .aload_n 0, 0, 0, 0, 0, 0, []),
  (68, 3, .getfield 10, 9, 0, 2, 0, 0, []),
  (71, 1, .aload_n 0, 0, 0, 0, 0, 0, []),
  (72, 3, .getfield 75, 9, 10, 2, 10, 0, []),
  (75, 3, .invokevirtual 155, mS_drawOne, 1, 7, 23, 0, [(0, 0)]),
  (78, 3, .iinc 2 1, 0, 0, 0, 0, 1, []),
  (81, 3, .goto (-19), 62, 0, 0, 0, 0, []),
  (84, 1, .aload_n 0, 0, 0, 0, 0, 0, []),
  (85, 3, .getfield 10, 9, 0, 2, 0, 0, []),
  (88, 3, .getfield 112, 7, 2, 0, 15, 0, []),
  (91, 1, .ireturn, 0, 0, 0, 0, 0, [])]
theorem ckC_draw : cdC_draw.all (rowOK mC_draw) = true := by decide +kernel
def cdC_seed : List Row := [
  (0, 1, .iload_n 1, 0, 0, 0, 0, 0, []),
  (1, 3, .ifCond .ge 5, 6, 0, 0, 0, 0, []),
  (4, 1, .iconst (-1), 0, 0, 0, 0, (-1), []),
  (5, 1, .ireturn, 0, 0, 0, 0, 0, []),
  (6, 1, .aload_n 0, 0, 0, 0, 0, 0, []),
  (7, 3, .getfield 10, 9, 0, 2, 0, 0, []),
  (10, 3, .getfield 158, 7, 3, 0, 18, 0, []),
  (13, 1, .istore_n 2, 0, 0, 0, 0, 0, []),
  (14, 1, .aload_n 0, 0, 0, 0, 0, 0, []),
  (15, 3, .getfield 10, 9, 0, 2, 0, 0, []),
  (18, 1, .iload_n 1, 0, 0, 0, 0, 0, []),
  (19, 3, .putfield 158, 7, 3, 0, 18, 0, []),
  (22, 1, .iload_n 2, 0, 0, 0, 0, 0, []),
  (23, 1, .ireturn, 0, 0, 0, 0, 0, [])]
theorem ckC_seed : cdC_seed.all (rowOK mC_seed) = true := by decide +kernel
def cdC_paint : List Row := [
  (0, 1, .aload_n 0, 0, 0, 0, 0, 0, []),
  (1, 3, .getfield 10, 9, 0, 2, 0, 0, []),
  (4, 1, .iload_n 1, 0, 0, 0, 0, 0, []),
  (5, 1, .iload_n 2, 0, 0, 0, 0, 0, []),
  (6, 3, .invokevirtual 121, mS_holds, 2, 7, 14, 0, [(0, 1)]),
  (9, 3, .ifCond .eq 13, 22, 0, 0, 0, 0, []),
  (12, 1, .iload_n 3, 0, 0, 0, 0, 0, []),
  (13, 3, .ifCond .lt 9, 22, 0, 0, 0, 0, []),
  (16, 1, .iload_n 3, 0, 0, 0, 0, 0, []),
  (17, 2, .bipush 10, 0, 0, 0, 0, 10, []),
  (19, 3, .if_icmp .lt 5, 24, 0, 0, 0, 0, []),
  (22, 1, .iconst (-1), 0, 0, 0, 0, (-1), []),
  (23, 1, .ireturn, 0, 0, 0, 0, 0, []),
  (24, 1, .aload_n 0, 0, 0, 0, 0, 0, []),
  (25, 3, .getfield 10, 9, 0, 2, 0, 0, []),
  (28, 1, .iload_n 1, 0, 0, 0, 0, 0, []),
  (29, 1, .iload_n 2, 0, 0, 0, 0, 0, []),
  (30, 3, .invokevirtual 161, mS_weightAt, 2, 7, 24, 0, [(0, 1)]),
  (33, 2, .istore 4, 0, 0, 0, 0, 0, []),
  (35, 2, .iload 4, 0, 0, 0, 0, 0, []),
  (37, 1, .iload_n 3, 0, 0, 0, 0, 0, []),
  (38, 3, .if_icmp .ne 5, 43, 0, 0, 0, 0, []),
  (41, 1, .iconst (-1), 0, 0, 0, 0, (-1), []),
  (42, 1, .ireturn, 0, 0, 0, 0, 0, []),
  (43, 1, .aload_n 0, 0, 0, 0, 0, 0, []),
  (44, 3, .invokevirtual 125, mC_beginAct, 0, 9, 15, 0, [(0, 3)]),
  (47, 1, .pop, 0, 0, 0, 0, 0, []),
  (48, 1, .aload_n 0, 0, 0, 0, 0, 0, []),
  (49, 3, .getfield 10, 9, 0, 2, 0, 0, []),
  (52, 3, .getfield 165, 7, 4, 2, 19, 0, []),
  (55, 1, .iload_n 2, 0, 0, 0, 0, 0, []),
  (56, 1, .aload_n 0, 0, 0, 0, 0, 0, []),
  (57, 3, .getfield 10, 9, 0, 2, 0, 0, []),
  (60, 3, .getfield 168, 7, 0, 0, 20, 0, []),
  (63, 1, .imul, 0, 0, 0, 0, 0, []),
  (64, 1, .iload_n 1, 0, 0, 0, 0, 0, []),
  (65, 1, .iadd, 0, 0, 0, 0, 0, []),
  (66, 1, .iload_n 3, 0, 0, 0, 0, 0, []),
  (67, 1, .iastore, 0, 0, 0, 0, 0, []),
  (68, 2, .iload 4, 0, 0, 0, 0, 0, []),
  (70, 1, .ireturn, 0, 0, 0, 0, 0, [])]
theorem ckC_paint : cdC_paint.all (rowOK mC_paint) = true := by decide +kernel
def cdC_rounds : List Row := [
  (0, 1, .iload_n 1, 0, 0, 0, 0, 0, []),
  (1, 1, .iconst 1, 0, 0, 0, 0, 1, []),
  (2, 3, .if_icmp .lt 19, 21, 0, 0, 0, 0, []),
  (5, 1, .iload_n 1, 0, 0, 0, 0, 0, []),
  (6, 2, .bipush 100, 0, 0, 0, 0, 100, []),
  (8, 3, .if_icmp .gt 13, 21, 0, 0, 0, 0, []),
  (11, 1, .aload_n 0, 0, 0, 0, 0, 0, []),
  (12, 3, .getfield 10, 9, 0, 2, 0, 0, []),
  (15, 3, .getfield 112, 7, 2, 0, 15, 0, []),
  (18, 3, .ifCond .ne 5, 23, 0, 0, 0, 0, []),
  (21, 1, .iconst (-1), 0, 0, 0, 0, (-1), []),
  (22, 1, .ireturn, 0, 0, 0, 0, 0, []),
  (23, 1, .aload_n 0, 0, 0, 0, 0, 0, []),
  (24, 3, .invokevirtual 171, mC_upToDate, 0, 9, 25, 0, [(0, 3)]),
  (27, 1, .astore_n 2, 0, 0, 0, 0, 0, []),
  (28, 1, .aload_n 0, 0, 0, 0, 0, 0, []),
  (29, 3, .getfield 37, 9, 4, 2, 4, 0, []),
  (32, 1, .aload_n 0, 0, 0, 0, 0, 0, []),
  (33, 3, .getfield 10, 9, 0, 2, 0, 0, []),
  (36, 3, .invokevirtual 175, mP_keep, 1, 4, 26, 0, [(0, 3)]),
  (39, 1, .pop, 0, 0, 0, 0, 0, []),
  (40, 1, .aload_n 0, 0, 0, 0, 0, 0, []),
  (41, 3, .getfield 51, 9, 6, 2, 6, 0, []),
  (44, 3, .invokevirtual 178, mA_forget, 0, 0, 27, 0, [(0, 0)]),
  (47, 1, .iconst 0, 0, 0, 0, 0, 0, []),
  (48, 1, .istore_n 3, 0, 0, 0, 0, 0, []),
  (49, 1, .iconst (-1), 0, 0, 0, 0, (-1), []),
  (50, 2, .istore 4, 0, 0, 0, 0, 0, []),
  (52, 1, .iconst 0, 0, 0, 0, 0, 0, []),
  (53, 2, .istore 5, 0, 0, 0, 0, 0, []),
  (55, 2, .iload 5, 0, 0, 0, 0, 0, []),
  (57, 1, .iload_n 1, 0, 0, 0, 0, 0, []),
  (58, 3, .if_icmp .ge 44, 102, 0, 0, 0, 0, []),
  (61, 2, .iload 4, 0, 0, 0, 0, 0, []),
  (63, 3, .ifCond .eq 39, 102, 0, 0, 0, 0, []),
  (66, 1, .aload_n 2, 0, 0, 0, 0, 0, []),
  (67, 3, .getfield 181, 2, 9, 0, 21, 0, []),
  (70, 2, .istore 6, 0, 0, 0, 0, 0, []),
  (72, 1, .aload_n 2, 0, 0, 0, 0, 0, []),
  (73, 1, .aload_n 0, 0, 0, 0, 0, 0, []),
  (74, 3, .getfield 10, 9, 0, 2, 0, 0, []),
  (77, 3, .invokevirtual 184, mF_round, 1, 2, 28, 0, [(0, 1)]),
  (80, 2, .istore 4, 0, 0, 0, 0, 0, []),
  (82, 1, .aload_n 0, 0, 0, 0, 0, 0, []),
  (83, 3, .getfield 44, 9, 5, 2, 5, 0, []),
  (86, 2, .iload 4, 0, 0, 0, 0, 0, []),
  (88, 2, .iload 6, 0, 0, 0, 0, 0, []),
  (90, 3, .invokevirtual 188, mT_add, 2, 8, 29, 0, [(0, 0)]),
  (93, 3, .iinc 3 1, 0, 0, 0, 0, 1, []),
  (96, 3, .iinc 5 1, 0, 0, 0, 0, 1, []),
  (99, 3, .goto (-44), 55, 0, 0, 0, 0, []),
  (102, 1, .iload_n 3, 0, 0, 0, 0, 0, []),
  (103, 1, .ireturn, 0, 0, 0, 0, 0, [])]
theorem ckC_rounds : cdC_rounds.all (rowOK mC_rounds) = true := by decide +kernel
def cdC_adapt : List Row := [
  (0, 1, .iload_n 1, 0, 0, 0, 0, 0, []),
  (1, 3, .ifCond .lt 15, 16, 0, 0, 0, 0, []),
  (4, 1, .iload_n 2, 0, 0, 0, 0, 0, []),
  (5, 1, .iload_n 1, 0, 0, 0, 0, 0, []),
  (6, 3, .if_icmp .lt 10, 16, 0, 0, 0, 0, []),
  (9, 1, .iload_n 2, 0, 0, 0, 0, 0, []),
  (10, 3, .sipush 9999, 0, 0, 0, 0, 9999, []),
  (13, 3, .if_icmp .le 5, 18, 0, 0, 0, 0, []),
  (16, 1, .iconst (-1), 0, 0, 0, 0, (-1), []),
  (17, 1, .ireturn, 0, 0, 0, 0, 0, []),
  (18, 1, .aload_n 0, 0, 0, 0, 0, 0, []),
  (19, 3, .invokevirtual 171, mC_upToDate, 0, 9, 25, 0, [(0, 3)]),
  (22, 1, .astore_n 3, 0, 0, 0, 0, 0, []),
  (23, 1, .aload_n 0, 0, 0, 0, 0, 0, []),
  (24, 1, .aload_n 3, 0, 0, 0, 0, 0, []),
  (25, 1, .iload_n 1, 0, 0, 0, 0, 0, []),
  (26, 3, .invokevirtual 189, mC_countLeft, 2, 9, 30, 0, [(0, 1)]),
  (29, 2, .istore 4, 0, 0, 0, 0, 0, []),
  (31, 1, .aload_n 0, 0, 0, 0, 0, 0, []),
  (32, 1, .aload_n 3, 0, 0, 0, 0, 0, []),
  (33, 2, .iload 4, 0, 0, 0, 0, 0, []),
  (35, 1, .iload_n 2, 0, 0, 0, 0, 0, []),
  (36, 3, .invokevirtual 193, mC_planAdded, 3, 9, 31, 0, [(0, 1)]),
  (39, 2, .istore 5, 0, 0, 0, 0, 0, []),
  (41, 2, .iload 4, 0, 0, 0, 0, 0, []),
  (43, 1, .aload_n 0, 0, 0, 0, 0, 0, []),
  (44, 3, .getfield 10, 9, 0, 2, 0, 0, []),
  (47, 3, .getfield 112, 7, 2, 0, 15, 0, []),
  (50, 3, .if_icmp .ne 10, 60, 0, 0, 0, 0, []),
  (53, 2, .iload 5, 0, 0, 0, 0, 0, []),
  (55, 3, .ifCond .ne 5, 60, 0, 0, 0, 0, []),
  (58, 1, .iconst (-1), 0, 0, 0, 0, (-1), []),
  (59, 1, .ireturn, 0, 0, 0, 0, 0, []),
  (60, 1, .aload_n 0, 0, 0, 0, 0, 0, []),
  (61, 3, .invokevirtual 125, mC_beginAct, 0, 9, 15, 0, [(0, 3)]),
  (64, 1, .pop, 0, 0, 0, 0, 0, []),
  (65, 1, .aload_n 0, 0, 0, 0, 0, 0, []),
  (66, 3, .getfield 10, 9, 0, 2, 0, 0, []),
  (69, 3, .getfield 112, 7, 2, 0, 15, 0, []),
  (72, 1, .iconst 1, 0, 0, 0, 0, 1, []),
  (73, 1, .isub, 0, 0, 0, 0, 0, []),
  (74, 2, .istore 6, 0, 0, 0, 0, 0, []),
  (76, 2, .iload 6, 0, 0, 0, 0, 0, []),
  (78, 3, .ifCond .lt 29, 107, 0, 0, 0, 0, []),
  (81, 1, .aload_n 3, 0, 0, 0, 0, 0, []),
  (82, 3, .getfield 197, 2, 5, 2, 22, 0, []),
  (85, 2, .iload 6, 0, 0, 0, 0, 0, []),
  (87, 1, .iaload, 0, 0, 0, 0, 0, []),
  (88, 1, .iload_n 1, 0, 0, 0, 0, 0, []),
  (89, 3, .if_icmp .ge 12, 101, 0, 0, 0, 0, []),
  (92, 1, .aload_n 0, 0, 0, 0, 0, 0, []),
  (93, 3, .getfield 10, 9, 0, 2, 0, 0, []),
  (96, 2, .iload 6, 0, 0, 0, 0, 0, []),
  (98, 3, .invokevirtual 137, mS_remove, 1, 7, 18, 0, [(0, 0)]),
  (101, 3, .iinc 6 (-1), 0, 0, 0, 0, (-1), []),
  (104, 3, .goto (-28), 76, 0, 0, 0, 0, []),
  (107, 1, .iconst 0, 0, 0, 0, 0, 0, []),
  (108, 2, .istore 6, 0, 0, 0, 0, 0, []),
  (110, 2, .iload 6, 0, 0, 0, 0, 0, []),
  (112, 2, .iload 5, 0, 0, 0, 0, 0, []),
  (114, 3, .if_icmp .ge 44, 158, 0, 0, 0, 0, []),
  (117, 1, .aload_n 0, 0, 0, 0, 0, 0, []),
  (118, 3, .getfield 10, 9, 0, 2, 0, 0, []),
  (121, 1, .aload_n 0, 0, 0, 0, 0, 0, []),
  (122, 3, .getfield 10, 9, 0, 2, 0, 0, []),
  (125, 1, .aload_n 0, 0, 0, 0, 0, 0, []),
  (126, 3, .getfield 79, 9, 11, 2, 11, 0, []),
  (129, 2, .iload 6, 0, 0, 0, 0, 0, []),
  (131, 1, .iaload, 0, 0, 0, 0, 0, []),
  (132, 3, .invokevirtual 200, mS_columnOf, 1, 7, 32, 0, [(0, 1)]),
  (135, 1, .aload_n 0, 0, 0, 0, 0, 0, []),
  (136, 3, .getfield 10, 9, 0, 2, 0, 0, []),
  (139, 1, .aload_n 0, 0, 0, 0, 0, 0, []),
  (140, 3, .getfield 79, 9, 11, 2, 11, 0, []),
  (143, 2, .iload 6, 0, 0, 0, 0, 0, []),
  (145, 1, .iaload, 0, 0, 0, 0, 0, []),
  (146, 3, .invokevirtual 204, mS_rowOf, 1, 7, 33, 0, [(0, 1)]),
  (149, 3, .invokevirtual 129, mS_add, 2, 7, 16, 0, [(0, 0)]),
  (152, 3, .iinc 6 1, 0, 0, 0, 0, 1, []),
  (155, 3, .goto (-45), 110, 0, 0, 0, 0, []),
  (158, 1, .aload_n 0, 0, 0, 0, 0, 0, []),
  (159, 3, .getfield 10, 9, 0, 2, 0, 0, []),
  (162, 3, .getfield 112, 7, 2, 0, 15, 0, []),
  (165, 1, .ireturn, 0, 0, 0, 0, 0, [])]
theorem ckC_adapt_0 : ((cdC_adapt.drop 0).take 60).all (rowOK mC_adapt) = true := by decide +kernel
theorem ckC_adapt_60 : ((cdC_adapt.drop 60).take 60).all (rowOK mC_adapt) = true := by decide +kernel
theorem ckC_adapt : cdC_adapt.all (rowOK mC_adapt) = true := by
  have h : (cdC_adapt.drop 0).all (rowOK mC_adapt) = true := (all_cut 60 ckC_adapt_0 (by rw [List.drop_drop]; exact (all_cut 60 ckC_adapt_60 (by rw [List.drop_drop]; exact (by rw [show cdC_adapt.drop 120 = [] from rfl]; rfl)))))
  exact h
def cdC_turn : List Row := [
  (0, 1, .aload_n 0, 0, 0, 0, 0, 0, []),
  (1, 3, .invokevirtual 125, mC_beginAct, 0, 9, 15, 0, [(0, 3)]),
  (4, 1, .astore_n 1, 0, 0, 0, 0, 0, []),
  (5, 1, .aload_n 0, 0, 0, 0, 0, 0, []),
  (6, 3, .getfield 10, 9, 0, 2, 0, 0, []),
  (9, 1, .aload_n 1, 0, 0, 0, 0, 0, []),
  (10, 3, .invokevirtual 207, mS_becomeQuarterTurnOf, 1, 7, 34, 0, [(0, 0)]),
  (13, 1, .aload_n 0, 0, 0, 0, 0, 0, []),
  (14, 3, .getfield 10, 9, 0, 2, 0, 0, []),
  (17, 3, .getfield 168, 7, 0, 0, 20, 0, []),
  (20, 1, .ireturn, 0, 0, 0, 0, 0, [])]
theorem ckC_turn : cdC_turn.all (rowOK mC_turn) = true := by decide +kernel
def cdC_undo : List Row := [
  (0, 1, .aload_n 0, 0, 0, 0, 0, 0, []),
  (1, 3, .getfield 37, 9, 4, 2, 4, 0, []),
  (4, 3, .getfield 211, 4, 2, 0, 23, 0, []),
  (7, 3, .ifCond .ne 5, 12, 0, 0, 0, 0, []),
  (10, 1, .iconst 0, 0, 0, 0, 0, 0, []),
  (11, 1, .ireturn, 0, 0, 1, 0, 0, []),
  (12, 1, .aload_n 0, 0, 0, 0, 0, 0, []),
  (13, 1, .aload_n 0, 0, 0, 0, 0, 0, []),
  (14, 3, .getfield 37, 9, 4, 2, 4, 0, []),
  (17, 1, .aload_n 0, 0, 0, 0, 0, 0, []),
  (18, 3, .getfield 10, 9, 0, 2, 0, 0, []),
  (21, 3, .invokevirtual 214, mP_swapBack, 1, 4, 35, 0, [(0, 3)]),
  (24, 3, .putfield 10, 9, 0, 2, 0, 0, []),
  (27, 1, .aload_n 0, 0, 0, 0, 0, 0, []),
  (28, 3, .invokevirtual 217, mC_forgetWhatWasSeen, 0, 9, 36, 0, [(0, 0)]),
  (31, 1, .aload_n 0, 0, 0, 0, 0, 0, []),
  (32, 3, .getfield 44, 9, 5, 2, 5, 0, []),
  (35, 3, .invokevirtual 220, mT_clear, 0, 8, 37, 0, [(0, 0)]),
  (38, 1, .iconst 1, 0, 0, 0, 0, 1, []),
  (39, 1, .ireturn, 0, 0, 1, 0, 0, [])]
theorem ckC_undo : cdC_undo.all (rowOK mC_undo) = true := by decide +kernel
def cdC_redo : List Row := [
  (0, 1, .aload_n 0, 0, 0, 0, 0, 0, []),
  (1, 3, .getfield 37, 9, 4, 2, 4, 0, []),
  (4, 3, .getfield 223, 4, 3, 0, 24, 0, []),
  (7, 3, .ifCond .ne 5, 12, 0, 0, 0, 0, []),
  (10, 1, .iconst 0, 0, 0, 0, 0, 0, []),
  (11, 1, .ireturn, 0, 0, 1, 0, 0, []),
  (12, 1, .aload_n 0, 0, 0, 0, 0, 0, []),
  (13, 1, .aload_n 0, 0, 0, 0, 0, 0, []),
  (14, 3, .getfield 37, 9, 4, 2, 4, 0, []),
  (17, 1, .aload_n 0, 0, 0, 0, 0, 0, []),
  (18, 3, .getfield 10, 9, 0, 2, 0, 0, []),
  (21, 3, .invokevirtual 226, mP_swapForth, 1, 4, 38, 0, [(0, 3)]),
  (24, 3, .putfield 10, 9, 0, 2, 0, 0, []),
  (27, 1, .aload_n 0, 0, 0, 0, 0, 0, []),
  (28, 3, .invokevirtual 217, mC_forgetWhatWasSeen, 0, 9, 36, 0, [(0, 0)]),
  (31, 1, .aload_n 0, 0, 0, 0, 0, 0, []),
  (32, 3, .getfield 44, 9, 5, 2, 5, 0, []),
  (35, 3, .invokevirtual 220, mT_clear, 0, 8, 37, 0, [(0, 0)]),
  (38, 1, .iconst 1, 0, 0, 0, 0, 1, []),
  (39, 1, .ireturn, 0, 0, 1, 0, 0, [])]
theorem ckC_redo : cdC_redo.all (rowOK mC_redo) = true := by decide +kernel
def cdC_dot : List Row := [
  (0, 1, .aload_n 0, 0, 0, 0, 0, 0, []),
  (1, 3, .getfield 10, 9, 0, 2, 0, 0, []),
  (4, 1, .iload_n 1, 0, 0, 0, 0, 0, []),
  (5, 3, .invokevirtual 133, mS_has, 1, 7, 17, 0, [(0, 1)]),
  (8, 3, .ifCond .ne 5, 13, 0, 0, 0, 0, []),
  (11, 1, .iconst (-1), 0, 0, 0, 0, (-1), []),
  (12, 1, .ireturn, 0, 0, 0, 0, 0, []),
  (13, 1, .iload_n 2, 0, 0, 0, 0, 0, []),
  (14, 46, .tableswitch 132 0 7 #[46, 56, 66, 76, 86, 96, 106, 115], 146, 0, 0, 0, 0, [(0, 60), (1, 70), (2, 80), (3, 90), (4, 100), (5, 110), (6, 120), (7, 129)]),
  (60, 1, .aload_n 0, 0, 0, 0, 0, 0, []),
  (61, 3, .getfield 10, 9, 0, 2, 0, 0, []),
  (64, 3, .getfield 229, 7, 5, 2, 25, 0, []),
  (67, 1, .iload_n 1, 0, 0, 0, 0, 0, []),
  (68, 1, .iaload, 0, 0, 0, 0, 0, []),
  (69, 1, .ireturn, 0, 0, 0, 0, 0, []),
  (70, 1, .aload_n 0, 0, 0, 0, 0, 0, []),
  (71, 3, .getfield 10, 9, 0, 2, 0, 0, []),
  (74, 3, .getfield 232, 7, 6, 2, 26, 0, []),
  (77, 1, .iload_n 1, 0, 0, 0, 0, 0, []),
  (78, 1, .iaload, 0, 0, 0, 0, 0, []),
  (79, 1, .ireturn, 0, 0, 0, 0, 0, []),
  (80, 1, .aload_n 0, 0, 0, 0, 0, 0, []),
  (81, 3, .getfield 10, 9, 0, 2, 0, 0, []),
  (84, 3, .getfield 235, 7, 7, 2, 27, 0, []),
  (87, 1, .iload_n 1, 0, 0, 0, 0, 0, []),
  (88, 1, .iaload, 0, 0, 0, 0, 0, []),
  (89, 1, .ireturn, 0, 0, 0, 0, 0, []),
  (90, 1, .aload_n 0, 0, 0, 0, 0, 0, []),
  (91, 3, .invokevirtual 171, mC_upToDate, 0, 9, 25, 0, [(0, 3)]),
  (94, 3, .getfield 238, 2, 4, 2, 28, 0, []),
  (97, 1, .iload_n 1, 0, 0, 0, 0, 0, []),
  (98, 1, .iaload, 0, 0, 0, 0, 0, []),
  (99, 1, .ireturn, 0, 0, 0, 0, 0, []),
  (100, 1, .aload_n 0, 0, 0, 0, 0, 0, []),
  (101, 3, .invokevirtual 171, mC_upToDate, 0, 9, 25, 0, [(0, 3)]),
  (104, 3, .getfield 197, 2, 5, 2, 22, 0, []),
  (107, 1, .iload_n 1, 0, 0, 0, 0, 0, []),
  (108, 1, .iaload, 0, 0, 0, 0, 0, []),
  (109, 1, .ireturn, 0, 0, 0, 0, 0, []),
  (110, 1, .aload_n 0, 0, 0, 0, 0, 0, []),
  (111, 3, .invokevirtual 171, mC_upToDate, 0, 9, 25, 0, [(0, 3)]),
  (114, 3, .getfield 241, 2, 6, 2, 29, 0, []),
  (117, 1, .iload_n 1, 0, 0, 0, 0, 0, []),
  (118, 1, .iaload, 0, 0, 0, 0, 0, []),
  (119, 1, .ireturn, 0, 0, 0, 0, 0, []),
  (120, 1, .aload_n 0, 0, 0, 0, 0, 0, []),
  (121, 3, .getfield 10, 9, 0, 2, 0, 0, []),
  (124, 1, .iload_n 1, 0, 0, 0, 0, 0, []),
  (125, 3, .invokevirtual 244, mS_spotOf, 1, 7, 39, 0, [(0, 1)]),
  (128, 1, .ireturn, 0, 0, 0, 0, 0, []),
  (129, 1, .aload_n 0, 0, 0, 0, 0, 0, []),
  (130, 3, .getfield 65, 9, 8, 2, 8, 0, []),
  (133, 1, .iload_n 1, 0, 0, 0, 0, 0, []),
  (134, 1, .aload_n 0, 0, 0, 0, 0, 0, []),
  (135, 3, .getfield 10, 9, 0, 2, 0, 0, []),
  (138, 1, .aload_n 0, 0, 0, 0, 0, 0, []),
  (139, 3, .invokevirtual 171, mC_upToDate, 0, 9, 25, 0, [(0, 3)]),
  (142, 3, .invokevirtual 247, mK_piecesOf, 3, 3, 40, 0, [(0, 1)]),
  (145, 1, .ireturn, 0, 0, 0, 0, 0, []),
  (146, 1, .iconst (-1), 0, 0, 0, 0, (-1), []),
  (147, 1, .ireturn, 0, 0, 0, 0, 0, [])]
theorem ckC_dot : cdC_dot.all (rowOK mC_dot) = true := by decide +kernel
def cdC_cell : List Row := [
  (0, 1, .aload_n 0, 0, 0, 0, 0, 0, []),
  (1, 3, .getfield 10, 9, 0, 2, 0, 0, []),
  (4, 1, .iload_n 1, 0, 0, 0, 0, 0, []),
  (5, 1, .iload_n 2, 0, 0, 0, 0, 0, []),
  (6, 3, .invokevirtual 121, mS_holds, 2, 7, 14, 0, [(0, 1)]),
  (9, 3, .ifCond .ne 5, 14, 0, 0, 0, 0, []),
  (12, 1, .iconst (-1), 0, 0, 0, 0, (-1), []),
  (13, 1, .ireturn, 0, 0, 0, 0, 0, []),
  (14, 1, .aload_n 0, 0, 0, 0, 0, 0, []),
  (15, 3, .getfield 10, 9, 0, 2, 0, 0, []),
  (18, 1, .iload_n 1, 0, 0, 0, 0, 0, []),
  (19, 1, .iload_n 2, 0, 0, 0, 0, 0, []),
  (20, 3, .invokevirtual 251, mS_numberOf, 2, 7, 41, 0, [(0, 1)]),
  (23, 2, .istore 4, 0, 0, 0, 0, 0, []),
  (25, 1, .iload_n 3, 0, 0, 0, 0, 0, []),
  (26, 30, .tableswitch 75 0 3 #[30, 41, 52, 63], 101, 0, 0, 0, 0, [(0, 56), (1, 67), (2, 78), (3, 89)]),
  (56, 1, .aload_n 0, 0, 0, 0, 0, 0, []),
  (57, 3, .getfield 10, 9, 0, 2, 0, 0, []),
  (60, 3, .getfield 165, 7, 4, 2, 19, 0, []),
  (63, 2, .iload 4, 0, 0, 0, 0, 0, []),
  (65, 1, .iaload, 0, 0, 0, 0, 0, []),
  (66, 1, .ireturn, 0, 0, 0, 0, 0, []),
  (67, 1, .aload_n 0, 0, 0, 0, 0, 0, []),
  (68, 3, .invokevirtual 171, mC_upToDate, 0, 9, 25, 0, [(0, 3)]),
  (71, 3, .getfield 254, 2, 0, 2, 30, 0, []),
  (74, 2, .iload 4, 0, 0, 0, 0, 0, []),
  (76, 1, .iaload, 0, 0, 0, 0, 0, []),
  (77, 1, .ireturn, 0, 0, 0, 0, 0, []),
  (78, 1, .aload_n 0, 0, 0, 0, 0, 0, []),
  (79, 3, .invokevirtual 171, mC_upToDate, 0, 9, 25, 0, [(0, 3)]),
  (82, 3, .getfield 257, 2, 3, 2, 31, 0, []),
  (85, 2, .iload 4, 0, 0, 0, 0, 0, []),
  (87, 1, .iaload, 0, 0, 0, 0, 0, []),
  (88, 1, .ireturn, 0, 0, 0, 0, 0, []),
  (89, 1, .aload_n 0, 0, 0, 0, 0, 0, []),
  (90, 3, .getfield 10, 9, 0, 2, 0, 0, []),
  (93, 1, .iload_n 1, 0, 0, 0, 0, 0, []),
  (94, 1, .iload_n 2, 0, 0, 0, 0, 0, []),
  (95, 1, .iload_n 1, 0, 0, 0, 0, 0, []),
  (96, 1, .iload_n 2, 0, 0, 0, 0, 0, []),
  (97, 3, .invokevirtual 260, mS_spotsWithin, 4, 7, 42, 0, [(0, 1)]),
  (100, 1, .ireturn, 0, 0, 0, 0, 0, []),
  (101, 1, .iconst (-1), 0, 0, 0, 0, (-1), []),
  (102, 1, .ireturn, 0, 0, 0, 0, 0, [])]
theorem ckC_cell : cdC_cell.all (rowOK mC_cell) = true := by decide +kernel
def cdC_near : List Row := [
  (0, 1, .aload_n 0, 0, 0, 0, 0, 0, []),
  (1, 3, .getfield 10, 9, 0, 2, 0, 0, []),
  (4, 1, .iload_n 1, 0, 0, 0, 0, 0, []),
  (5, 1, .iload_n 2, 0, 0, 0, 0, 0, []),
  (6, 3, .invokevirtual 121, mS_holds, 2, 7, 14, 0, [(0, 1)]),
  (9, 3, .ifCond .eq 14, 23, 0, 0, 0, 0, []),
  (12, 1, .aload_n 0, 0, 0, 0, 0, 0, []),
  (13, 3, .getfield 10, 9, 0, 2, 0, 0, []),
  (16, 1, .iload_n 3, 0, 0, 0, 0, 0, []),
  (17, 3, .invokevirtual 133, mS_has, 1, 7, 17, 0, [(0, 1)]),
  (20, 3, .ifCond .ne 5, 25, 0, 0, 0, 0, []),
  (23, 1, .iconst (-1), 0, 0, 0, 0, (-1), []),
  (24, 1, .ireturn, 0, 0, 0, 0, 0, []),
  (25, 1, .iconst 0, 0, 0, 0, 0, 0, []),
  (26, 2, .istore 4, 0, 0, 0, 0, 0, []),
  (28, 2, .iload 4, 0, 0, 0, 0, 0, []),
  (30, 1, .aload_n 0, 0, 0, 0, 0, 0, []),
  (31, 3, .getfield 10, 9, 0, 2, 0, 0, []),
  (34, 3, .getfield 112, 7, 2, 0, 15, 0, []),
  (37, 3, .if_icmp .ge 27, 64, 0, 0, 0, 0, []),
  (40, 1, .aload_n 0, 0, 0, 0, 0, 0, []),
  (41, 3, .getfield 10, 9, 0, 2, 0, 0, []),
  (44, 2, .iload 4, 0, 0, 0, 0, 0, []),
  (46, 1, .iload_n 1, 0, 0, 0, 0, 0, []),
  (47, 1, .iload_n 2, 0, 0, 0, 0, 0, []),
  (48, 3, .invokevirtual 264, mS_dotsAheadOf, 3, 7, 43, 0, [(0, 1)]),
  (51, 1, .iload_n 3, 0, 0, 0, 0, 0, []),
  (52, 3, .if_icmp .ne 6, 58, 0, 0, 0, 0, []),
  (55, 2, .iload 4, 0, 0, 0, 0, 0, []),
  (57, 1, .ireturn, 0, 0, 0, 0, 0, []),
  (58, 3, .iinc 4 1, 0, 0, 0, 0, 1, []),
  (61, 3, .goto (-33), 28, 0, 0, 0, 0, []),
  (64, 1, .iconst (-1), 0, 0, 0, 0, (-1), []),
  (65, 1, .ireturn, 0, 0, 0, 0, 0, [])]
theorem ckC_near : cdC_near.all (rowOK mC_near) = true := by decide +kernel
def cdC_far : List Row := [
  (0, 1, .aload_n 0, 0, 0, 0, 0, 0, []),
  (1, 3, .getfield 10, 9, 0, 2, 0, 0, []),
  (4, 1, .iload_n 1, 0, 0, 0, 0, 0, []),
  (5, 1, .iload_n 2, 0, 0, 0, 0, 0, []),
  (6, 3, .invokevirtual 121, mS_holds, 2, 7, 14, 0, [(0, 1)]),
  (9, 3, .ifCond .eq 14, 23, 0, 0, 0, 0, []),
  (12, 1, .aload_n 0, 0, 0, 0, 0, 0, []),
  (13, 3, .getfield 10, 9, 0, 2, 0, 0, []),
  (16, 1, .iload_n 3, 0, 0, 0, 0, 0, []),
  (17, 3, .invokevirtual 133, mS_has, 1, 7, 17, 0, [(0, 1)]),
  (20, 3, .ifCond .ne 5, 25, 0, 0, 0, 0, []),
  (23, 1, .iconst (-1), 0, 0, 0, 0, (-1), []),
  (24, 1, .ireturn, 0, 0, 0, 0, 0, []),
  (25, 1, .aload_n 0, 0, 0, 0, 0, 0, []),
  (26, 3, .getfield 10, 9, 0, 2, 0, 0, []),
  (29, 1, .iload_n 3, 0, 0, 0, 0, 0, []),
  (30, 1, .iload_n 1, 0, 0, 0, 0, 0, []),
  (31, 1, .iload_n 2, 0, 0, 0, 0, 0, []),
  (32, 3, .invokevirtual 268, mS_gap, 3, 7, 44, 0, [(0, 2)]),
  (35, 2, .lstore 5, 0, 0, 0, 0, 0, []),
  (37, 1, .aload_n 0, 0, 0, 0, 0, 0, []),
  (38, 3, .getfield 10, 9, 0, 2, 0, 0, []),
  (41, 1, .iload_n 3, 0, 0, 0, 0, 0, []),
  (42, 3, .invokevirtual 272, mS_span, 1, 7, 45, 0, [(0, 2)]),
  (45, 2, .lstore 7, 0, 0, 0, 0, 0, []),
  (47, 2, .iload 4, 0, 0, 0, 0, 0, []),
  (49, 27, .lookupswitch 60 #[(0, 27), (1, 36)], 109, 0, 0, 0, 0, [(0, 76), (1, 85)]),
  (76, 2, .lload 5, 0, 0, 0, 0, 0, []),
  (78, 2, .lload 7, 0, 0, 0, 0, 0, []),
  (80, 3, .invokestatic 276, mC_divide, 2, 0, 46, 0, [(0, 2)]),
  (83, 1, .l2i, 0, 0, 0, 0, 0, []),
  (84, 1, .ireturn, 0, 0, 0, 0, 0, []),
  (85, 2, .lload 5, 0, 0, 0, 0, 0, []),
  (87, 2, .lload 5, 0, 0, 0, 0, 0, []),
  (89, 2, .lload 7, 0, 0, 0, 0, 0, []),
  (91, 3, .invokestatic 276, mC_divide, 2, 0, 46, 0, [(0, 2)]),
  (94, 2, .lload 7, 0, 0, 0, 0, 0, []),
  (96, 1, .lmul, 0, 0, 0, 0, 0, []),
  (97, 1, .lsub, 0, 0, 0, 0, 0, []),
  (98, 3, .ldc2_w 280, 1000, 0, 0, 0, 0, []),
  (101, 1, .lmul, 0, 0, 0, 0, 0, []),
  (102, 2, .lload 7, 0, 0, 0, 0, 0, []),
  (104, 3, .invokestatic 276, mC_divide, 2, 0, 46, 0, [(0, 2)]),
  (107, 1, .l2i, 0, 0, 0, 0, 0, []),
  (108, 1, .ireturn, 0, 0, 0, 0, 0, []),
  (109, 1, .iconst (-1), 0, 0, 0, 0, (-1), []),
  (110, 1, .ireturn, 0, 0, 0, 0, 0, [])]
theorem ckC_far : cdC_far.all (rowOK mC_far) = true := by decide +kernel
def cdC_around : List Row := [
  (0, 1, .aload_n 0, 0, 0, 0, 0, 0, []),
  (1, 3, .getfield 10, 9, 0, 2, 0, 0, []),
  (4, 1, .iload_n 1, 0, 0, 0, 0, 0, []),
  (5, 1, .iload_n 2, 0, 0, 0, 0, 0, []),
  (6, 3, .invokevirtual 121, mS_holds, 2, 7, 14, 0, [(0, 1)]),
  (9, 3, .ifCond .eq 13, 22, 0, 0, 0, 0, []),
  (12, 1, .iload_n 3, 0, 0, 0, 0, 0, []),
  (13, 3, .ifCond .lt 9, 22, 0, 0, 0, 0, []),
  (16, 1, .iload_n 3, 0, 0, 0, 0, 0, []),
  (17, 2, .bipush 30, 0, 0, 0, 0, 30, []),
  (19, 3, .if_icmp .le 5, 24, 0, 0, 0, 0, []),
  (22, 1, .iconst (-1), 0, 0, 0, 0, (-1), []),
  (23, 1, .ireturn, 0, 0, 0, 0, 0, []),
  (24, 1, .iconst 0, 0, 0, 0, 0, 0, []),
  (25, 2, .istore 4, 0, 0, 0, 0, 0, []),
  (27, 1, .iconst 0, 0, 0, 0, 0, 0, []),
  (28, 2, .istore 5, 0, 0, 0, 0, 0, []),
  (30, 2, .iload 5, 0, 0, 0, 0, 0, []),
  (32, 1, .aload_n 0, 0, 0, 0, 0, 0, []),
  (33, 3, .getfield 10, 9, 0, 2, 0, 0, []),
  (36, 3, .getfield 112, 7, 2, 0, 15, 0, []),
  (39, 3, .if_icmp .ge 42, 81, 0, 0, 0, 0, []),
  (42, 1, .aload_n 0, 0, 0, 0, 0, 0, []),
  (43, 3, .getfield 10, 9, 0, 2, 0, 0, []),
  (46, 2, .iload 5, 0, 0, 0, 0, 0, []),
  (48, 1, .iload_n 1, 0, 0, 0, 0, 0, []),
  (49, 1, .iload_n 2, 0, 0, 0, 0, 0, []),
  (50, 3, .invokevirtual 268, mS_gap, 3, 7, 44, 0, [(0, 2)]),
  (53, 1, .iload_n 3, 0, 0, 0, 0, 0, []),
  (54, 1, .i2l, 0, 0, 0, 0, 0, []),
  (55, 1, .iload_n 3, 0, 0, 0, 0, 0, []),
  (56, 1, .i2l, 0, 0, 0, 0, 0, []),
  (57, 1, .lmul, 0, 0, 0, 0, 0, []),
  (58, 1, .aload_n 0, 0, 0, 0, 0, 0, []),
  (59, 3, .getfield 10, 9, 0, 2, 0, 0, []),
  (62, 2, .iload 5, 0, 0, 0, 0, 0, []),
  (64, 3, .invokevirtual 272, mS_span, 1, 7, 45, 0, [(0, 2)]),
  (67, 1, .lmul, 0, 0, 0, 0, 0, []),
  (68, 1, .lcmp, 0, 0, 0, 0, 0, []),
  (69, 3, .ifCond .gt 6, 75, 0, 0, 0, 0, []),
  (72, 3, .iinc 4 1, 0, 0, 0, 0, 1, []),
  (75, 3, .iinc 5 1, 0, 0, 0, 0, 1, []),
  (78, 3, .goto (-48), 30, 0, 0, 0, 0, []),
  (81, 2, .iload 4, 0, 0, 0, 0, 0, []),
  (83, 1, .ireturn, 0, 0, 0, 0, 0, [])]
theorem ckC_around : cdC_around.all (rowOK mC_around) = true := by decide +kernel
def cdC_ring : List Row := [
  (0, 1, .aload_n 0, 0, 0, 0, 0, 0, []),
  (1, 3, .getfield 10, 9, 0, 2, 0, 0, []),
  (4, 1, .iload_n 1, 0, 0, 0, 0, 0, []),
  (5, 1, .iload_n 2, 0, 0, 0, 0, 0, []),
  (6, 3, .invokevirtual 121, mS_holds, 2, 7, 14, 0, [(0, 1)]),
  (9, 3, .ifCond .eq 13, 22, 0, 0, 0, 0, []),
  (12, 1, .aload_n 0, 0, 0, 0, 0, 0, []),
  (13, 3, .getfield 10, 9, 0, 2, 0, 0, []),
  (16, 3, .getfield 112, 7, 2, 0, 15, 0, []),
  (19, 3, .ifCond .ne 5, 24, 0, 0, 0, 0, []),
  (22, 1, .iconst (-1), 0, 0, 0, 0, (-1), []),
  (23, 1, .ireturn, 0, 0, 0, 0, 0, []),
  (24, 1, .aload_n 0, 0, 0, 0, 0, 0, []),
  (25, 3, .invokevirtual 171, mC_upToDate, 0, 9, 25, 0, [(0, 3)]),
  (28, 3, .getfield 254, 2, 0, 2, 30, 0, []),
  (31, 1, .aload_n 0, 0, 0, 0, 0, 0, []),
  (32, 3, .getfield 10, 9, 0, 2, 0, 0, []),
  (35, 1, .iload_n 1, 0, 0, 0, 0, 0, []),
  (36, 1, .iload_n 2, 0, 0, 0, 0, 0, []),
  (37, 3, .invokevirtual 251, mS_numberOf, 2, 7, 41, 0, [(0, 1)]),
  (40, 1, .iaload, 0, 0, 0, 0, 0, []),
  (41, 1, .istore_n 3, 0, 0, 0, 0, 0, []),
  (42, 1, .aload_n 0, 0, 0, 0, 0, 0, []),
  (43, 3, .getfield 10, 9, 0, 2, 0, 0, []),
  (46, 1, .iload_n 3, 0, 0, 0, 0, 0, []),
  (47, 3, .invokevirtual 133, mS_has, 1, 7, 17, 0, [(0, 1)]),
  (50, 3, .ifCond .ne 5, 55, 0, 0, 0, 0, []),
  (53, 1, .iconst (-1), 0, 0, 0, 0, (-1), []),
  (54, 1, .ireturn, 0, 0, 0, 0, 0, []),
  (55, 1, .aload_n 0, 0, 0, 0, 0, 0, []),
  (56, 3, .getfield 10, 9, 0, 2, 0, 0, []),
  (59, 3, .getfield 229, 7, 5, 2, 25, 0, []),
  (62, 1, .iload_n 3, 0, 0, 0, 0, 0, []),
  (63, 1, .iaload, 0, 0, 0, 0, 0, []),
  (64, 1, .i2l, 0, 0, 0, 0, 0, []),
  (65, 1, .aload_n 0, 0, 0, 0, 0, 0, []),
  (66, 3, .getfield 10, 9, 0, 2, 0, 0, []),
  (69, 3, .getfield 235, 7, 7, 2, 27, 0, []),
  (72, 1, .iload_n 3, 0, 0, 0, 0, 0, []),
  (73, 1, .iaload, 0, 0, 0, 0, 0, []),
  (74, 1, .i2l, 0, 0, 0, 0, 0, []),
  (75, 3, .invokestatic 276, mC_divide, 2, 0, 46, 0, [(0, 2)]),
  (78, 1, .l2i, 0, 0, 0, 0, 0, []),
  (79, 2, .istore 4, 0, 0, 0, 0, 0, []),
  (81, 1, .aload_n 0, 0, 0, 0, 0, 0, []),
  (82, 3, .getfield 10, 9, 0, 2, 0, 0, []),
  (85, 3, .getfield 232, 7, 6, 2, 26, 0, []),
  (88, 1, .iload_n 3, 0, 0, 0, 0, 0, []),
  (89, 1, .iaload, 0, 0, 0, 0, 0, []),
  (90, 1, .i2l, 0, 0, 0, 0, 0, []),
  (91, 1, .aload_n 0, 0, 0, 0, 0, 0, []),
  (92, 3, .getfield 10, 9, 0, 2, 0, 0, []),
  (95, 3, .getfield 235, 7, 7, 2, 27, 0, []),
  (98, 1, .iload_n 3, 0, 0, 0, 0, 0, []),
  (99, 1, .iaload, 0, 0, 0, 0, 0, []),
  (100, 1, .i2l, 0, 0, 0, 0, 0, []),
  (101, 3, .invokestatic 276, mC_divide, 2, 0, 46, 0, [(0, 2)]),
  (104, 1, .l2i, 0, 0, 0, 0, 0, []),
  (105, 2, .istore 5, 0, 0, 0, 0, 0, []),
  (107, 2, .iload 4, 0, 0, 0, 0, 0, []),
  (109, 1, .iload_n 1, 0, 0, 0, 0, 0, []),
  (110, 1, .isub, 0, 0, 0, 0, 0, []),
  (111, 3, .invokestatic 282, 0, 0, 5, 47, 0, []),
  (114, 2, .iload 5, 0, 0, 0, 0, 0, []),
  (116, 1, .iload_n 2, 0, 0, 0, 0, 0, []),
  (117, 1, .isub, 0, 0, 0, 0, 0, []),
  (118, 3, .invokestatic 282, 0, 0, 5, 47, 0, []),
  (121, 3, .invokestatic 287, 0, 0, 4, 48, 0, []),
  (124, 1, .ireturn, 0, 0, 0, 0, 0, [])]
theorem ckC_ring : cdC_ring.all (rowOK mC_ring) = true := by decide +kernel
def cdC_closest : List Row := [
  (0, 1, .aload_n 0, 0, 0, 0, 0, 0, []),
  (1, 3, .getfield 10, 9, 0, 2, 0, 0, []),
  (4, 3, .getfield 112, 7, 2, 0, 15, 0, []),
  (7, 1, .iconst 2, 0, 0, 0, 0, 2, []),
  (8, 3, .if_icmp .lt 12, 20, 0, 0, 0, 0, []),
  (11, 1, .iload_n 1, 0, 0, 0, 0, 0, []),
  (12, 3, .ifCond .lt 8, 20, 0, 0, 0, 0, []),
  (15, 1, .iload_n 1, 0, 0, 0, 0, 0, []),
  (16, 1, .iconst 2, 0, 0, 0, 0, 2, []),
  (17, 3, .if_icmp .le 5, 22, 0, 0, 0, 0, []),
  (20, 1, .iconst (-1), 0, 0, 0, 0, (-1), []),
  (21, 1, .ireturn, 0, 0, 0, 0, 0, []),
  (22, 3, .ldc2_w 290, 2147483647, 0, 0, 1, 0, []),
  (25, 1, .lstore_n 2, 0, 0, 0, 0, 0, []),
  (26, 1, .iconst 0, 0, 0, 0, 0, 0, []),
  (27, 2, .istore 4, 0, 0, 0, 0, 0, []),
  (29, 1, .iconst 0, 0, 0, 0, 0, 0, []),
  (30, 2, .istore 5, 0, 0, 0, 0, 0, []),
  (32, 1, .iconst 0, 0, 0, 0, 0, 0, []),
  (33, 2, .istore 6, 0, 0, 0, 0, 0, []),
  (35, 2, .iload 6, 0, 0, 0, 0, 0, []),
  (37, 1, .aload_n 0, 0, 0, 0, 0, 0, []),
  (38, 3, .getfield 10, 9, 0, 2, 0, 0, []),
  (41, 3, .getfield 112, 7, 2, 0, 15, 0, []),
  (44, 3, .if_icmp .ge 68, 112, 0, 0, 0, 0, []),
  (47, 2, .iload 6, 0, 0, 0, 0, 0, []),
  (49, 1, .iconst 1, 0, 0, 0, 0, 1, []),
  (50, 1, .iadd, 0, 0, 0, 0, 0, []),
  (51, 2, .istore 7, 0, 0, 0, 0, 0, []),
  (53, 2, .iload 7, 0, 0, 0, 0, 0, []),
  (55, 1, .aload_n 0, 0, 0, 0, 0, 0, []),
  (56, 3, .getfield 10, 9, 0, 2, 0, 0, []),
  (59, 3, .getfield 112, 7, 2, 0, 15, 0, []),
  (62, 3, .if_icmp .ge 44, 106, 0, 0, 0, 0, []),
  (65, 1, .aload_n 0, 0, 0, 0, 0, 0, []),
  (66, 3, .getfield 10, 9, 0, 2, 0, 0, []),
  (69, 2, .iload 6, 0, 0, 0, 0, 0, []),
  (71, 1, .aload_n 0, 0, 0, 0, 0, 0, []),
  (72, 3, .getfield 10, 9, 0, 2, 0, 0, []),
  (75, 2, .iload 7, 0, 0, 0, 0, 0, []),
  (77, 3, .invokevirtual 292, mS_apart, 3, 7, 49, 0, [(0, 2)]),
  (80, 2, .lstore 8, 0, 0, 0, 0, 0, []),
  (82, 2, .lload 8, 0, 0, 0, 0, 0, []),
  (84, 1, .lload_n 2, 0, 0, 0, 0, 0, []),
  (85, 1, .lcmp, 0, 0, 0, 0, 0, []),
  (86, 3, .ifCond .ge 14, 100, 0, 0, 0, 0, []),
  (89, 2, .lload 8, 0, 0, 0, 0, 0, []),
  (91, 1, .lstore_n 2, 0, 0, 0, 0, 0, []),
  (92, 2, .iload 6, 0, 0, 0, 0, 0, []),
  (94, 2, .istore 4, 0, 0, 0, 0, 0, []),
  (96, 2, .iload 7, 0, 0, 0, 0, 0, []),
  (98, 2, .istore 5, 0, 0, 0, 0, 0, []),
  (100, 3, .iinc 7 1, 0, 0, 0, 0, 1, []),
  (103, 3, .goto (-50), 53, 0, 0, 0, 0, []),
  (106, 3, .iinc 6 1, 0, 0, 0, 0, 1, []),
  (109, 3, .goto (-74), 35, 0, 0, 0, 0, []),
  (112, 1, .iload_n 1, 0, 0, 0, 0, 0, []),
  (113, 27, .lookupswitch 33 #[(0, 27), (1, 30)], 146, 0, 0, 0, 0, [(0, 140), (1, 143)]),
  (140, 1, .lload_n 2, 0, 0, 0, 0, 0, []),
  (141, 1, .l2i, 0, 0, 0, 0, 0, []),
  (142, 1, .ireturn, 0, 0, 0, 0, 0, []),
  (143, 2, .iload 4, 0, 0, 0, 0, 0, []),
  (145, 1, .ireturn, 0, 0, 0, 0, 0, []),
  (146, 2, .iload 5, 0, 0, 0, 0, 0, []),
  (148, 1, .ireturn, 0, 0, 0, 0, 0, [])]
theorem ckC_closest : cdC_closest.all (rowOK mC_closest) = true := by decide +kernel
def cdC_loads : List Row := [
  (0, 1, .aload_n 0, 0, 0, 0, 0, 0, []),
  (1, 3, .getfield 10, 9, 0, 2, 0, 0, []),
  (4, 3, .getfield 112, 7, 2, 0, 15, 0, []),
  (7, 3, .ifCond .ne 5, 12, 0, 0, 0, 0, []),
  (10, 1, .iconst (-1), 0, 0, 0, 0, (-1), []),
  (11, 1, .ireturn, 0, 0, 0, 0, 0, []),
  (12, 1, .aload_n 0, 0, 0, 0, 0, 0, []),
  (13, 3, .invokevirtual 171, mC_upToDate, 0, 9, 25, 0, [(0, 3)]),
  (16, 1, .astore_n 2, 0, 0, 0, 0, 0, []),
  (17, 1, .iload_n 1, 0, 0, 0, 0, 0, []),
  (18, 30, .tableswitch 71 0 3 #[30, 44, 53, 62], 89, 0, 0, 0, 0, [(0, 48), (1, 62), (2, 71), (3, 80)]),
  (48, 1, .aload_n 2, 0, 0, 0, 0, 0, []),
  (49, 3, .getfield 197, 2, 5, 2, 22, 0, []),
  (52, 1, .aload_n 0, 0, 0, 0, 0, 0, []),
  (53, 1, .aload_n 2, 0, 0, 0, 0, 0, []),
  (54, 3, .getfield 197, 2, 5, 2, 22, 0, []),
  (57, 3, .invokevirtual 296, mC_firstGreatest, 1, 9, 50, 0, [(0, 1)]),
  (60, 1, .iaload, 0, 0, 0, 0, 0, []),
  (61, 1, .ireturn, 0, 0, 0, 0, 0, []),
  (62, 1, .aload_n 0, 0, 0, 0, 0, 0, []),
  (63, 1, .aload_n 2, 0, 0, 0, 0, 0, []),
  (64, 3, .getfield 197, 2, 5, 2, 22, 0, []),
  (67, 3, .invokevirtual 300, mC_leastOf, 1, 9, 51, 0, [(0, 1)]),
  (70, 1, .ireturn, 0, 0, 0, 0, 0, []),
  (71, 1, .aload_n 0, 0, 0, 0, 0, 0, []),
  (72, 1, .aload_n 2, 0, 0, 0, 0, 0, []),
  (73, 3, .getfield 197, 2, 5, 2, 22, 0, []),
  (76, 3, .invokevirtual 296, mC_firstGreatest, 1, 9, 50, 0, [(0, 1)]),
  (79, 1, .ireturn, 0, 0, 0, 0, 0, []),
  (80, 1, .aload_n 0, 0, 0, 0, 0, 0, []),
  (81, 1, .aload_n 2, 0, 0, 0, 0, 0, []),
  (82, 3, .getfield 241, 2, 6, 2, 29, 0, []),
  (85, 3, .invokevirtual 296, mC_firstGreatest, 1, 9, 50, 0, [(0, 1)]),
  (88, 1, .ireturn, 0, 0, 0, 0, 0, []),
  (89, 1, .iconst (-1), 0, 0, 0, 0, (-1), []),
  (90, 1, .ireturn, 0, 0, 0, 0, 0, [])]
theorem ckC_loads : cdC_loads.all (rowOK mC_loads) = true := by decide +kernel
def cdC_ties : List Row := [
  (0, 1, .aload_n 0, 0, 0, 0, 0, 0, []),
  (1, 3, .getfield 10, 9, 0, 2, 0, 0, []),
  (4, 1, .iload_n 1, 0, 0, 0, 0, 0, []),
  (5, 1, .iload_n 2, 0, 0, 0, 0, 0, []),
  (6, 3, .invokevirtual 121, mS_holds, 2, 7, 14, 0, [(0, 1)]),
  (9, 3, .ifCond .eq 13, 22, 0, 0, 0, 0, []),
  (12, 1, .aload_n 0, 0, 0, 0, 0, 0, []),
  (13, 3, .getfield 10, 9, 0, 2, 0, 0, []),
  (16, 3, .getfield 112, 7, 2, 0, 15, 0, []),
  (19, 3, .ifCond .ne 5, 24, 0, 0, 0, 0, []),
  (22, 1, .iconst (-1), 0, 0, 0, 0, (-1), []),
  (23, 1, .ireturn, 0, 0, 0, 0, 0, []),
  (24, 1, .aload_n 0, 0, 0, 0, 0, 0, []),
  (25, 3, .invokevirtual 171, mC_upToDate, 0, 9, 25, 0, [(0, 3)]),
  (28, 1, .astore_n 3, 0, 0, 0, 0, 0, []),
  (29, 1, .aload_n 0, 0, 0, 0, 0, 0, []),
  (30, 3, .getfield 10, 9, 0, 2, 0, 0, []),
  (33, 1, .iload_n 1, 0, 0, 0, 0, 0, []),
  (34, 1, .iload_n 2, 0, 0, 0, 0, 0, []),
  (35, 3, .invokevirtual 251, mS_numberOf, 2, 7, 41, 0, [(0, 1)]),
  (38, 2, .istore 4, 0, 0, 0, 0, 0, []),
  (40, 1, .iconst 0, 0, 0, 0, 0, 0, []),
  (41, 2, .istore 5, 0, 0, 0, 0, 0, []),
  (43, 1, .iconst 0, 0, 0, 0, 0, 0, []),
  (44, 2, .istore 6, 0, 0, 0, 0, 0, []),
  (46, 2, .iload 6, 0, 0, 0, 0, 0, []),
  (48, 1, .aload_n 0, 0, 0, 0, 0, 0, []),
  (49, 3, .getfield 10, 9, 0, 2, 0, 0, []),
  (52, 3, .getfield 112, 7, 2, 0, 15, 0, []),
  (55, 3, .if_icmp .ge 52, 107, 0, 0, 0, 0, []),
  (58, 1, .aload_n 0, 0, 0, 0, 0, 0, []),
  (59, 3, .getfield 10, 9, 0, 2, 0, 0, []),
  (62, 2, .iload 6, 0, 0, 0, 0, 0, []),
  (64, 1, .iload_n 1, 0, 0, 0, 0, 0, []),
  (65, 1, .iload_n 2, 0, 0, 0, 0, 0, []),
  (66, 3, .invokevirtual 268, mS_gap, 3, 7, 44, 0, [(0, 2)]),
  (69, 1, .aload_n 3, 0, 0, 0, 0, 0, []),
  (70, 3, .getfield 303, 2, 2, 2, 32, 0, []),
  (73, 2, .iload 4, 0, 0, 0, 0, 0, []),
  (75, 1, .laload, 0, 0, 0, 0, 0, []),
  (76, 1, .lmul, 0, 0, 0, 0, 0, []),
  (77, 1, .aload_n 3, 0, 0, 0, 0, 0, []),
  (78, 3, .getfield 306, 2, 1, 2, 33, 0, []),
  (81, 2, .iload 4, 0, 0, 0, 0, 0, []),
  (83, 1, .laload, 0, 0, 0, 0, 0, []),
  (84, 1, .aload_n 0, 0, 0, 0, 0, 0, []),
  (85, 3, .getfield 10, 9, 0, 2, 0, 0, []),
  (88, 2, .iload 6, 0, 0, 0, 0, 0, []),
  (90, 3, .invokevirtual 272, mS_span, 1, 7, 45, 0, [(0, 2)]),
  (93, 1, .lmul, 0, 0, 0, 0, 0, []),
  (94, 1, .lcmp, 0, 0, 0, 0, 0, []),
  (95, 3, .ifCond .ne 6, 101, 0, 0, 0, 0, []),
  (98, 3, .iinc 5 1, 0, 0, 0, 0, 1, []),
  (101, 3, .iinc 6 1, 0, 0, 0, 0, 1, []),
  (104, 3, .goto (-58), 46, 0, 0, 0, 0, []),
  (107, 2, .iload 5, 0, 0, 0, 0, 0, []),
  (109, 1, .ireturn, 0, 0, 0, 0, 0, [])]
theorem ckC_ties : cdC_ties.all (rowOK mC_ties) = true := by decide +kernel
def cdC_due : List Row := [
  (0, 1, .iload_n 1, 0, 0, 0, 0, 0, []),
  (1, 1, .iconst 1, 0, 0, 0, 0, 1, []),
  (2, 3, .if_icmp .lt 9, 11, 0, 0, 0, 0, []),
  (5, 1, .iload_n 1, 0, 0, 0, 0, 0, []),
  (6, 2, .bipush 10, 0, 0, 0, 0, 10, []),
  (8, 3, .if_icmp .lt 5, 13, 0, 0, 0, 0, []),
  (11, 1, .iconst (-1), 0, 0, 0, 0, (-1), []),
  (12, 1, .ireturn, 0, 0, 0, 0, 0, []),
  (13, 1, .aload_n 0, 0, 0, 0, 0, 0, []),
  (14, 3, .getfield 10, 9, 0, 2, 0, 0, []),
  (17, 1, .aload_n 0, 0, 0, 0, 0, 0, []),
  (18, 3, .getfield 83, 9, 12, 2, 12, 0, []),
  (21, 3, .invokevirtual 308, mS_sumByShade, 1, 7, 52, 0, [(0, 0)]),
  (24, 1, .iconst 0, 0, 0, 0, 0, 0, []),
  (25, 1, .istore_n 2, 0, 0, 0, 0, 0, []),
  (26, 1, .iconst 1, 0, 0, 0, 0, 1, []),
  (27, 1, .istore_n 3, 0, 0, 0, 0, 0, []),
  (28, 1, .iload_n 3, 0, 0, 0, 0, 0, []),
  (29, 2, .bipush 10, 0, 0, 0, 0, 10, []),
  (31, 3, .if_icmp .ge 18, 49, 0, 0, 0, 0, []),
  (34, 1, .iload_n 2, 0, 0, 0, 0, 0, []),
  (35, 1, .aload_n 0, 0, 0, 0, 0, 0, []),
  (36, 3, .getfield 83, 9, 12, 2, 12, 0, []),
  (39, 1, .iload_n 3, 0, 0, 0, 0, 0, []),
  (40, 1, .iaload, 0, 0, 0, 0, 0, []),
  (41, 1, .iadd, 0, 0, 0, 0, 0, []),
  (42, 1, .istore_n 2, 0, 0, 0, 0, 0, []),
  (43, 3, .iinc 3 1, 0, 0, 0, 0, 1, []),
  (46, 3, .goto (-18), 28, 0, 0, 0, 0, []),
  (49, 1, .iload_n 2, 0, 0, 0, 0, 0, []),
  (50, 3, .ifCond .ne 5, 55, 0, 0, 0, 0, []),
  (53, 1, .iconst 0, 0, 0, 0, 0, 0, []),
  (54, 1, .ireturn, 0, 0, 0, 0, 0, []),
  (55, 1, .iconst 0, 0, 0, 0, 0, 0, []),
  (56, 1, .istore_n 3, 0, 0, 0, 0, 0, []),
  (57, 1, .iconst 0, 0, 0, 0, 0, 0, []),
  (58, 2, .istore 4, 0, 0, 0, 0, 0, []),
  (60, 1, .aload_n 0, 0, 0, 0, 0, 0, []),
  (61, 3, .getfield 10, 9, 0, 2, 0, 0, []),
  (64, 3, .getfield 112, 7, 2, 0, 15, 0, []),
  (67, 1, .aload_n 0, 0, 0, 0, 0, 0, []),
  (68, 3, .getfield 83, 9, 12, 2, 12, 0, []),
  (71, 1, .iload_n 1, 0, 0, 0, 0, 0, []),
  (72, 1, .iaload, 0, 0, 0, 0, 0, []),
  (73, 1, .imul, 0, 0, 0, 0, 0, []),
  (74, 1, .iload_n 2, 0, 0, 0, 0, 0, []),
  (75, 1, .irem, 0, 0, 0, 0, 0, []),
  (76, 2, .istore 5, 0, 0, 0, 0, 0, []),
  (78, 1, .iconst 1, 0, 0, 0, 0, 1, []),
  (79, 2, .istore 6, 0, 0, 0, 0, 0, []),
  (81, 2, .iload 6, 0, 0, 0, 0, 0, []),
  (83, 2, .bipush 10, 0, 0, 0, 0, 10, []),
  (85, 3, .if_icmp .ge 71, 156, 0, 0, 0, 0, []),
  (88, 1, .iload_n 3, 0, 0, 0, 0, 0, []),
  (89, 1, .aload_n 0, 0, 0, 0, 0, 0, []),
  (90, 3, .getfield 10, 9, 0, 2, 0, 0, []),
  (93, 3, .getfield 112, 7, 2, 0, 15, 0, []),
  (96, 1, .aload_n 0, 0, 0, 0, 0, 0, []),
  (97, 3, .getfield 83, 9, 12, 2, 12, 0, []),
  (100, 2, .iload 6, 0, 0, 0, 0, 0, []),
  (102, 1, .iaload, 0, 0, 0, 0, 0, []),
  (103, 1, .imul, 0, 0, 0, 0, 0, []),
  (104, 1, .iload_n 2, 0, 0, 0, 0, 0, []),
  (105, 1, .idiv, 0, 0, 0, 0, 0, []),
  (106, 1, .iadd, 0, 0, 0, 0, 0, []),
  (107, 1, .istore_n 3, 0, 0, 0, 0, 0, []),
  (108, 1, .aload_n 0, 0, 0, 0, 0, 0, []),
  (109, 3, .getfield 10, 9, 0, 2, 0, 0, []),
  (112, 3, .getfield 112, 7, 2, 0, 15, 0, []),
  (115, 1, .aload_n 0, 0, 0, 0, 0, 0, []),
  (116, 3, .getfield 83, 9, 12, 2, 12, 0, []),
  (119, 2, .iload 6, 0, 0, 0, 0, 0, []),
  (121, 1, .iaload, 0, 0, 0, 0, 0, []),
  (122, 1, .imul, 0, 0, 0, 0, 0, []),
  (123, 1, .iload_n 2, 0, 0, 0, 0, 0, []),
  (124, 1, .irem, 0, 0, 0, 0, 0, []),
  (125, 2, .istore 7, 0, 0, 0, 0, 0, []),
  (127, 2, .iload 7, 0, 0, 0, 0, 0, []),
  (129, 2, .iload 5, 0, 0, 0, 0, 0, []),
  (131, 3, .if_icmp .gt 16, 147, 0, 0, 0, 0, []),
  (134, 2, .iload 7, 0, 0, 0, 0, 0, []),
  (136, 2, .iload 5, 0, 0, 0, 0, 0, []),
  (138, 3, .if_icmp .ne 12, 150, 0, 0, 0, 0, []),
  (141, 2, .iload 6, 0, 0, 0, 0, 0, []),
  (143, 1, .iload_n 1, 0, 0, 0, 0, 0, []),
  (144, 3, .if_icmp .le 6, 150, 0, 0, 0, 0, []),
  (147, 3, .iinc 4 1, 0, 0, 0, 0, 1, []),
  (150, 3, .iinc 6 1, 0, 0, 0, 0, 1, []),
  (153, 3, .goto (-72), 81, 0, 0, 0, 0, []),
  (156, 1, .aload_n 0, 0, 0, 0, 0, 0, []),
  (157, 3, .getfield 10, 9, 0, 2, 0, 0, []),
  (160, 3, .getfield 112, 7, 2, 0, 15, 0, []),
  (163, 1, .iload_n 3, 0, 0, 0, 0, 0, []),
  (164, 1, .isub, 0, 0, 0, 0, 0, []),
  (165, 2, .istore 6, 0, 0, 0, 0, 0, []),
  (167, 1, .aload_n 0, 0, 0, 0, 0, 0, []),
  (168, 3, .getfield 10, 9, 0, 2, 0, 0, []),
  (171, 3, .getfield 112, 7, 2, 0, 15, 0, []),
  (174, 1, .aload_n 0, 0, 0, 0, 0, 0, []),
  (175, 3, .getfield 83, 9, 12, 2, 12, 0, []),
  (178, 1, .iload_n 1, 0, 0, 0, 0, 0, []),
  (179, 1, .iaload, 0, 0, 0, 0, 0, []),
  (180, 1, .imul, 0, 0, 0, 0, 0, []),
  (181, 1, .iload_n 2, 0, 0, 0, 0, 0, []),
  (182, 1, .idiv, 0, 0, 0, 0, 0, []),
  (183, 2, .iload 4, 0, 0, 0, 0, 0, []),
  (185, 2, .iload 6, 0, 0, 0, 0, 0, []),
  (187, 3, .if_icmp .ge 7, 194, 0, 0, 0, 0, []),
  (190, 1, .iconst 1, 0, 0, 0, 0, 1, []),
  (191, 3, .goto 4, 195, 0, 0, 0, 0, []),
  (194, 1, .iconst 0, 0, 0, 0, 0, 0, []),
  (195, 1, .iadd, 0, 0, 0, 0, 0, []),
  (196, 1, .ireturn, 0, 0, 0, 0, 0, [])]
theorem ckC_due_0 : ((cdC_due.drop 0).take 60).all (rowOK mC_due) = true := by decide +kernel
theorem ckC_due_60 : ((cdC_due.drop 60).take 60).all (rowOK mC_due) = true := by decide +kernel
theorem ckC_due : cdC_due.all (rowOK mC_due) = true := by
  have h : (cdC_due.drop 0).all (rowOK mC_due) = true := (all_cut 60 ckC_due_0 (by rw [List.drop_drop]; exact (all_cut 60 ckC_due_60 (by rw [List.drop_drop]; exact (by rw [show cdC_due.drop 120 = [] from rfl]; rfl)))))
  exact h
def cdC_best : List Row := [
  (0, 1, .aload_n 0, 0, 0, 0, 0, 0, []),
  (1, 3, .getfield 10, 9, 0, 2, 0, 0, []),
  (4, 1, .iload_n 1, 0, 0, 0, 0, 0, []),
  (5, 3, .invokevirtual 133, mS_has, 1, 7, 17, 0, [(0, 1)]),
  (8, 3, .ifCond .eq 12, 20, 0, 0, 0, 0, []),
  (11, 1, .iload_n 2, 0, 0, 0, 0, 0, []),
  (12, 3, .ifCond .lt 8, 20, 0, 0, 0, 0, []),
  (15, 1, .iload_n 2, 0, 0, 0, 0, 0, []),
  (16, 1, .iconst 1, 0, 0, 0, 0, 1, []),
  (17, 3, .if_icmp .le 5, 22, 0, 0, 0, 0, []),
  (20, 1, .iconst (-1), 0, 0, 0, 0, (-1), []),
  (21, 1, .ireturn, 0, 0, 0, 0, 0, []),
  (22, 1, .aload_n 0, 0, 0, 0, 0, 0, []),
  (23, 3, .getfield 58, 9, 7, 2, 7, 0, []),
  (26, 1, .iload_n 1, 0, 0, 0, 0, 0, []),
  (27, 1, .aload_n 0, 0, 0, 0, 0, 0, []),
  (28, 3, .getfield 10, 9, 0, 2, 0, 0, []),
  (31, 1, .aload_n 0, 0, 0, 0, 0, 0, []),
  (32, 3, .invokevirtual 171, mC_upToDate, 0, 9, 25, 0, [(0, 3)]),
  (35, 3, .invokevirtual 312, mQ_leaveOut, 3, 5, 53, 0, [(0, 0)]),
  (38, 1, .aload_n 0, 0, 0, 0, 0, 0, []),
  (39, 3, .getfield 58, 9, 7, 2, 7, 0, []),
  (42, 1, .aload_n 0, 0, 0, 0, 0, 0, []),
  (43, 3, .getfield 10, 9, 0, 2, 0, 0, []),
  (46, 3, .invokevirtual 316, mQ_findCheapest, 1, 5, 54, 0, [(0, 0)]),
  (49, 1, .iload_n 2, 0, 0, 0, 0, 0, []),
  (50, 3, .ifCond .ne 13, 63, 0, 0, 0, 0, []),
  (53, 1, .aload_n 0, 0, 0, 0, 0, 0, []),
  (54, 3, .getfield 58, 9, 7, 2, 7, 0, []),
  (57, 3, .getfield 319, 5, 1, 0, 34, 0, []),
  (60, 3, .goto 10, 70, 0, 0, 0, 0, []),
  (63, 1, .aload_n 0, 0, 0, 0, 0, 0, []),
  (64, 3, .getfield 58, 9, 7, 2, 7, 0, []),
  (67, 3, .getfield 322, 5, 2, 0, 35, 0, []),
  (70, 1, .ireturn, 0, 0, 0, 0, 0, [])]
theorem ckC_best : cdC_best.all (rowOK mC_best) = true := by decide +kernel
def cdC_edge : List Row := [
  (0, 1, .aload_n 0, 0, 0, 0, 0, 0, []),
  (1, 3, .getfield 10, 9, 0, 2, 0, 0, []),
  (4, 1, .iload_n 1, 0, 0, 0, 0, 0, []),
  (5, 3, .invokevirtual 133, mS_has, 1, 7, 17, 0, [(0, 1)]),
  (8, 3, .ifCond .ne 5, 13, 0, 0, 0, 0, []),
  (11, 1, .iconst (-1), 0, 0, 0, 0, (-1), []),
  (12, 1, .ireturn, 0, 0, 0, 0, 0, []),
  (13, 1, .iload_n 2, 0, 0, 0, 0, 0, []),
  (14, 26, .tableswitch 83 0 2 #[26, 39, 70], 97, 0, 0, 0, 0, [(0, 40), (1, 53), (2, 84)]),
  (40, 1, .aload_n 0, 0, 0, 0, 0, 0, []),
  (41, 3, .invokevirtual 171, mC_upToDate, 0, 9, 25, 0, [(0, 3)]),
  (44, 1, .iload_n 1, 0, 0, 0, 0, 0, []),
  (45, 1, .aload_n 0, 0, 0, 0, 0, 0, []),
  (46, 3, .getfield 10, 9, 0, 2, 0, 0, []),
  (49, 3, .invokevirtual 325, mF_farthestOf, 2, 2, 55, 0, [(0, 1)]),
  (52, 1, .ireturn, 0, 0, 0, 0, 0, []),
  (53, 1, .aload_n 0, 0, 0, 0, 0, 0, []),
  (54, 3, .getfield 65, 9, 8, 2, 8, 0, []),
  (57, 1, .aload_n 0, 0, 0, 0, 0, 0, []),
  (58, 3, .getfield 10, 9, 0, 2, 0, 0, []),
  (61, 1, .aload_n 0, 0, 0, 0, 0, 0, []),
  (62, 3, .invokevirtual 171, mC_upToDate, 0, 9, 25, 0, [(0, 3)]),
  (65, 3, .invokevirtual 329, mK_countCouples, 2, 3, 56, 0, [(0, 0)]),
  (68, 1, .aload_n 0, 0, 0, 0, 0, 0, []),
  (69, 3, .getfield 65, 9, 8, 2, 8, 0, []),
  (72, 1, .iload_n 1, 0, 0, 0, 0, 0, []),
  (73, 1, .aload_n 0, 0, 0, 0, 0, 0, []),
  (74, 3, .getfield 10, 9, 0, 2, 0, 0, []),
  (77, 3, .getfield 112, 7, 2, 0, 15, 0, []),
  (80, 3, .invokevirtual 333, mK_couplesOf, 2, 3, 57, 0, [(0, 1)]),
  (83, 1, .ireturn, 0, 0, 0, 0, 0, []),
  (84, 1, .aload_n 0, 0, 0, 0, 0, 0, []),
  (85, 3, .invokevirtual 171, mC_upToDate, 0, 9, 25, 0, [(0, 3)]),
  (88, 1, .iload_n 1, 0, 0, 0, 0, 0, []),
  (89, 1, .aload_n 0, 0, 0, 0, 0, 0, []),
  (90, 3, .getfield 10, 9, 0, 2, 0, 0, []),
  (93, 3, .invokevirtual 336, mF_cellsAtEdge, 2, 2, 58, 0, [(0, 1)]),
  (96, 1, .ireturn, 0, 0, 0, 0, 0, []),
  (97, 1, .iconst (-1), 0, 0, 0, 0, (-1), []),
  (98, 1, .ireturn, 0, 0, 0, 0, 0, [])]
theorem ckC_edge : cdC_edge.all (rowOK mC_edge) = true := by decide +kernel
def cdC_touch : List Row := [
  (0, 1, .aload_n 0, 0, 0, 0, 0, 0, []),
  (1, 3, .getfield 10, 9, 0, 2, 0, 0, []),
  (4, 1, .iload_n 1, 0, 0, 0, 0, 0, []),
  (5, 3, .invokevirtual 133, mS_has, 1, 7, 17, 0, [(0, 1)]),
  (8, 3, .ifCond .eq 19, 27, 0, 0, 0, 0, []),
  (11, 1, .aload_n 0, 0, 0, 0, 0, 0, []),
  (12, 3, .getfield 10, 9, 0, 2, 0, 0, []),
  (15, 1, .iload_n 2, 0, 0, 0, 0, 0, []),
  (16, 3, .invokevirtual 133, mS_has, 1, 7, 17, 0, [(0, 1)]),
  (19, 3, .ifCond .eq 8, 27, 0, 0, 0, 0, []),
  (22, 1, .iload_n 1, 0, 0, 0, 0, 0, []),
  (23, 1, .iload_n 2, 0, 0, 0, 0, 0, []),
  (24, 3, .if_icmp .ne 5, 29, 0, 0, 0, 0, []),
  (27, 1, .iconst (-1), 0, 0, 0, 0, (-1), []),
  (28, 1, .ireturn, 0, 0, 0, 0, 0, []),
  (29, 1, .aload_n 0, 0, 0, 0, 0, 0, []),
  (30, 3, .getfield 65, 9, 8, 2, 8, 0, []),
  (33, 1, .aload_n 0, 0, 0, 0, 0, 0, []),
  (34, 3, .getfield 10, 9, 0, 2, 0, 0, []),
  (37, 1, .aload_n 0, 0, 0, 0, 0, 0, []),
  (38, 3, .invokevirtual 171, mC_upToDate, 0, 9, 25, 0, [(0, 3)]),
  (41, 3, .invokevirtual 329, mK_countCouples, 2, 3, 56, 0, [(0, 0)]),
  (44, 1, .aload_n 0, 0, 0, 0, 0, 0, []),
  (45, 3, .getfield 65, 9, 8, 2, 8, 0, []),
  (48, 1, .iload_n 1, 0, 0, 0, 0, 0, []),
  (49, 1, .iload_n 2, 0, 0, 0, 0, 0, []),
  (50, 3, .invokevirtual 339, mK_couplesOfTwo, 2, 3, 59, 0, [(0, 1)]),
  (53, 1, .ireturn, 0, 0, 0, 0, 0, [])]
theorem ckC_touch : cdC_touch.all (rowOK mC_touch) = true := by decide +kernel
def cdC_way : List Row := [
  (0, 1, .aload_n 0, 0, 0, 0, 0, 0, []),
  (1, 3, .getfield 10, 9, 0, 2, 0, 0, []),
  (4, 1, .iload_n 1, 0, 0, 0, 0, 0, []),
  (5, 3, .invokevirtual 133, mS_has, 1, 7, 17, 0, [(0, 1)]),
  (8, 3, .ifCond .eq 14, 22, 0, 0, 0, 0, []),
  (11, 1, .aload_n 0, 0, 0, 0, 0, 0, []),
  (12, 3, .getfield 10, 9, 0, 2, 0, 0, []),
  (15, 1, .iload_n 2, 0, 0, 0, 0, 0, []),
  (16, 3, .invokevirtual 133, mS_has, 1, 7, 17, 0, [(0, 1)]),
  (19, 3, .ifCond .ne 5, 24, 0, 0, 0, 0, []),
  (22, 1, .iconst (-1), 0, 0, 0, 0, (-1), []),
  (23, 1, .ireturn, 0, 0, 0, 0, 0, []),
  (24, 1, .aload_n 0, 0, 0, 0, 0, 0, []),
  (25, 3, .getfield 65, 9, 8, 2, 8, 0, []),
  (28, 1, .aload_n 0, 0, 0, 0, 0, 0, []),
  (29, 3, .getfield 10, 9, 0, 2, 0, 0, []),
  (32, 1, .aload_n 0, 0, 0, 0, 0, 0, []),
  (33, 3, .invokevirtual 171, mC_upToDate, 0, 9, 25, 0, [(0, 3)]),
  (36, 3, .invokevirtual 329, mK_countCouples, 2, 3, 56, 0, [(0, 0)]),
  (39, 1, .aload_n 0, 0, 0, 0, 0, 0, []),
  (40, 3, .getfield 65, 9, 8, 2, 8, 0, []),
  (43, 1, .iload_n 1, 0, 0, 0, 0, 0, []),
  (44, 1, .iload_n 2, 0, 0, 0, 0, 0, []),
  (45, 1, .aload_n 0, 0, 0, 0, 0, 0, []),
  (46, 3, .getfield 10, 9, 0, 2, 0, 0, []),
  (49, 3, .getfield 112, 7, 2, 0, 15, 0, []),
  (52, 3, .invokevirtual 342, mK_fewestSteps, 3, 3, 60, 0, [(0, 1)]),
  (55, 1, .ireturn, 0, 0, 0, 0, 0, [])]
theorem ckC_way : cdC_way.all (rowOK mC_way) = true := by decide +kernel
end
section
/-! ===== code as rows ===== -/
def cdC_shade : List Row := [
  (0, 1, .iload_n 1, 0, 0, 0, 0, 0, []),
  (1, 3, .ifCond .lt 9, 10, 0, 0, 0, 0, []),
  (4, 1, .iload_n 1, 0, 0, 0, 0, 0, []),
  (5, 2, .bipush 10, 0, 0, 0, 0, 10, []),
  (7, 3, .if_icmp .lt 5, 12, 0, 0, 0, 0, []),
  (10, 1, .iconst (-1), 0, 0, 0, 0, (-1), []),
  (11, 1, .ireturn, 0, 0, 0, 0, 0, []),
  (12, 1, .iload_n 2, 0, 0, 0, 0, 0, []),
  (13, 31, .tableswitch 55 0 3 #[31, 37, 43, 49], 68, 0, 0, 0, 0, [(0, 44), (1, 50), (2, 56), (3, 62)]),
  (44, 1, .aload_n 0, 0, 0, 0, 0, 0, []),
  (45, 1, .iload_n 1, 0, 0, 0, 0, 0, []),
  (46, 3, .invokevirtual 345, mC_cellsOfShade, 1, 9, 61, 0, [(0, 1)]),
  (49, 1, .ireturn, 0, 0, 0, 0, 0, []),
  (50, 1, .aload_n 0, 0, 0, 0, 0, 0, []),
  (51, 1, .iload_n 1, 0, 0, 0, 0, 0, []),
  (52, 3, .invokevirtual 348, mC_spotsOfShade, 1, 9, 62, 0, [(0, 1)]),
  (55, 1, .ireturn, 0, 0, 0, 0, 0, []),
  (56, 1, .aload_n 0, 0, 0, 0, 0, 0, []),
  (57, 1, .iload_n 1, 0, 0, 0, 0, 0, []),
  (58, 3, .invokevirtual 351, mC_ownersOfShade, 1, 9, 63, 0, [(0, 1)]),
  (61, 1, .ireturn, 0, 0, 0, 0, 0, []),
  (62, 1, .aload_n 0, 0, 0, 0, 0, 0, []),
  (63, 1, .iload_n 1, 0, 0, 0, 0, 0, []),
  (64, 3, .invokevirtual 354, mC_costOfShade, 1, 9, 64, 0, [(0, 1)]),
  (67, 1, .ireturn, 0, 0, 0, 0, 0, []),
  (68, 1, .iconst (-1), 0, 0, 0, 0, (-1), []),
  (69, 1, .ireturn, 0, 0, 0, 0, 0, [])]
theorem ckC_shade : cdC_shade.all (rowOK mC_shade) = true := by decide +kernel
def cdC_step : List Row := [
  (0, 1, .aload_n 0, 0, 0, 0, 0, 0, []),
  (1, 3, .getfield 10, 9, 0, 2, 0, 0, []),
  (4, 1, .iload_n 1, 0, 0, 0, 0, 0, []),
  (5, 3, .invokevirtual 133, mS_has, 1, 7, 17, 0, [(0, 1)]),
  (8, 3, .ifCond .ne 5, 13, 0, 0, 0, 0, []),
  (11, 1, .iconst (-1), 0, 0, 0, 0, (-1), []),
  (12, 1, .ireturn, 0, 0, 0, 0, 0, []),
  (13, 1, .aload_n 0, 0, 0, 0, 0, 0, []),
  (14, 3, .getfield 51, 9, 6, 2, 6, 0, []),
  (17, 1, .aload_n 0, 0, 0, 0, 0, 0, []),
  (18, 3, .getfield 10, 9, 0, 2, 0, 0, []),
  (21, 3, .invokevirtual 357, mA_lookOne, 1, 0, 65, 0, [(0, 0)]),
  (24, 1, .aload_n 0, 0, 0, 0, 0, 0, []),
  (25, 3, .getfield 10, 9, 0, 2, 0, 0, []),
  (28, 1, .iload_n 1, 0, 0, 0, 0, 0, []),
  (29, 1, .aload_n 0, 0, 0, 0, 0, 0, []),
  (30, 3, .getfield 51, 9, 6, 2, 6, 0, []),
  (33, 3, .getfield 360, 0, 0, 2, 36, 0, []),
  (36, 1, .iload_n 1, 0, 0, 0, 0, 0, []),
  (37, 3, .invokevirtual 292, mS_apart, 3, 7, 49, 0, [(0, 2)]),
  (40, 1, .l2i, 0, 0, 0, 0, 0, []),
  (41, 1, .ireturn, 0, 0, 0, 0, 0, [])]
theorem ckC_step : cdC_step.all (rowOK mC_step) = true := by decide +kernel
def cdC_moves : List Row := [
  (0, 1, .aload_n 0, 0, 0, 0, 0, 0, []),
  (1, 3, .getfield 10, 9, 0, 2, 0, 0, []),
  (4, 3, .getfield 112, 7, 2, 0, 15, 0, []),
  (7, 3, .ifCond .ne 5, 12, 0, 0, 0, 0, []),
  (10, 1, .iconst (-1), 0, 0, 0, 0, (-1), []),
  (11, 1, .ireturn, 0, 0, 0, 0, 0, []),
  (12, 1, .aload_n 0, 0, 0, 0, 0, 0, []),
  (13, 3, .getfield 51, 9, 6, 2, 6, 0, []),
  (16, 1, .aload_n 0, 0, 0, 0, 0, 0, []),
  (17, 3, .getfield 10, 9, 0, 2, 0, 0, []),
  (20, 3, .invokevirtual 357, mA_lookOne, 1, 0, 65, 0, [(0, 0)]),
  (23, 1, .aload_n 0, 0, 0, 0, 0, 0, []),
  (24, 3, .getfield 51, 9, 6, 2, 6, 0, []),
  (27, 3, .getfield 363, 0, 1, 0, 37, 0, []),
  (30, 1, .ireturn, 0, 0, 0, 0, 0, [])]
theorem ckC_moves : cdC_moves.all (rowOK mC_moves) = true := by decide +kernel
def cdC_till : List Row := [
  (0, 1, .aload_n 0, 0, 0, 0, 0, 0, []),
  (1, 3, .getfield 10, 9, 0, 2, 0, 0, []),
  (4, 3, .getfield 112, 7, 2, 0, 15, 0, []),
  (7, 3, .ifCond .ne 5, 12, 0, 0, 0, 0, []),
  (10, 1, .iconst (-1), 0, 0, 0, 0, (-1), []),
  (11, 1, .ireturn, 0, 0, 0, 0, 0, []),
  (12, 1, .iload_n 1, 0, 0, 0, 0, 0, []),
  (13, 27, .lookupswitch 65 #[(0, 27), (1, 46)], 78, 0, 0, 0, 0, [(0, 40), (1, 59)]),
  (40, 1, .aload_n 0, 0, 0, 0, 0, 0, []),
  (41, 3, .getfield 51, 9, 6, 2, 6, 0, []),
  (44, 1, .aload_n 0, 0, 0, 0, 0, 0, []),
  (45, 3, .getfield 10, 9, 0, 2, 0, 0, []),
  (48, 3, .invokevirtual 366, mA_lookToEnd, 1, 0, 66, 0, [(0, 0)]),
  (51, 1, .aload_n 0, 0, 0, 0, 0, 0, []),
  (52, 3, .getfield 51, 9, 6, 2, 6, 0, []),
  (55, 3, .getfield 369, 0, 2, 0, 38, 0, []),
  (58, 1, .ireturn, 0, 0, 0, 0, 0, []),
  (59, 1, .aload_n 0, 0, 0, 0, 0, 0, []),
  (60, 3, .getfield 51, 9, 6, 2, 6, 0, []),
  (63, 1, .aload_n 0, 0, 0, 0, 0, 0, []),
  (64, 3, .getfield 10, 9, 0, 2, 0, 0, []),
  (67, 3, .invokevirtual 366, mA_lookToEnd, 1, 0, 66, 0, [(0, 0)]),
  (70, 1, .aload_n 0, 0, 0, 0, 0, 0, []),
  (71, 3, .getfield 51, 9, 6, 2, 6, 0, []),
  (74, 3, .getfield 372, 0, 3, 0, 39, 0, []),
  (77, 1, .ireturn, 0, 0, 0, 0, 0, []),
  (78, 1, .iconst (-1), 0, 0, 0, 0, (-1), []),
  (79, 1, .ireturn, 0, 0, 0, 0, 0, [])]
theorem ckC_till : cdC_till.all (rowOK mC_till) = true := by decide +kernel
def cdC_steps : List Row := [
  (0, 1, .iload_n 1, 0, 0, 0, 0, 0, []),
  (1, 1, .iconst (-1), 0, 0, 0, 0, (-1), []),
  (2, 3, .if_icmp .ne 11, 13, 0, 0, 0, 0, []),
  (5, 1, .aload_n 0, 0, 0, 0, 0, 0, []),
  (6, 3, .getfield 44, 9, 5, 2, 5, 0, []),
  (9, 3, .getfield 375, 8, 3, 0, 40, 0, []),
  (12, 1, .ireturn, 0, 0, 0, 0, 0, []),
  (13, 1, .iload_n 1, 0, 0, 0, 0, 0, []),
  (14, 3, .ifCond .lt 14, 28, 0, 0, 0, 0, []),
  (17, 1, .iload_n 1, 0, 0, 0, 0, 0, []),
  (18, 1, .aload_n 0, 0, 0, 0, 0, 0, []),
  (19, 3, .getfield 44, 9, 5, 2, 5, 0, []),
  (22, 3, .getfield 375, 8, 3, 0, 40, 0, []),
  (25, 3, .if_icmp .lt 5, 30, 0, 0, 0, 0, []),
  (28, 1, .iconst (-1), 0, 0, 0, 0, (-1), []),
  (29, 1, .ireturn, 0, 0, 0, 0, 0, []),
  (30, 1, .iload_n 2, 0, 0, 0, 0, 0, []),
  (31, 25, .lookupswitch 43 #[(0, 25), (1, 34)], 74, 0, 0, 0, 0, [(0, 56), (1, 65)]),
  (56, 1, .aload_n 0, 0, 0, 0, 0, 0, []),
  (57, 3, .getfield 44, 9, 5, 2, 5, 0, []),
  (60, 1, .iload_n 1, 0, 0, 0, 0, 0, []),
  (61, 3, .invokevirtual 376, mT_movedAt, 1, 8, 67, 0, [(0, 1)]),
  (64, 1, .ireturn, 0, 0, 0, 0, 0, []),
  (65, 1, .aload_n 0, 0, 0, 0, 0, 0, []),
  (66, 3, .getfield 44, 9, 5, 2, 5, 0, []),
  (69, 1, .iload_n 1, 0, 0, 0, 0, 0, []),
  (70, 3, .invokevirtual 379, mT_costAt, 1, 8, 68, 0, [(0, 1)]),
  (73, 1, .ireturn, 0, 0, 0, 0, 0, []),
  (74, 1, .iconst (-1), 0, 0, 0, 0, (-1), []),
  (75, 1, .ireturn, 0, 0, 0, 0, 0, [])]
theorem ckC_steps : cdC_steps.all (rowOK mC_steps) = true := by decide +kernel
def cdC_loss : List Row := [
  (0, 1, .aload_n 0, 0, 0, 0, 0, 0, []),
  (1, 3, .getfield 10, 9, 0, 2, 0, 0, []),
  (4, 1, .iload_n 1, 0, 0, 0, 0, 0, []),
  (5, 3, .invokevirtual 133, mS_has, 1, 7, 17, 0, [(0, 1)]),
  (8, 3, .ifCond .eq 14, 22, 0, 0, 0, 0, []),
  (11, 1, .aload_n 0, 0, 0, 0, 0, 0, []),
  (12, 3, .getfield 10, 9, 0, 2, 0, 0, []),
  (15, 3, .getfield 112, 7, 2, 0, 15, 0, []),
  (18, 1, .iconst 2, 0, 0, 0, 0, 2, []),
  (19, 3, .if_icmp .ge 5, 24, 0, 0, 0, 0, []),
  (22, 1, .iconst (-1), 0, 0, 0, 0, (-1), []),
  (23, 1, .ireturn, 0, 0, 0, 0, 0, []),
  (24, 1, .aload_n 0, 0, 0, 0, 0, 0, []),
  (25, 3, .getfield 58, 9, 7, 2, 7, 0, []),
  (28, 1, .iload_n 1, 0, 0, 0, 0, 0, []),
  (29, 1, .aload_n 0, 0, 0, 0, 0, 0, []),
  (30, 3, .getfield 10, 9, 0, 2, 0, 0, []),
  (33, 1, .aload_n 0, 0, 0, 0, 0, 0, []),
  (34, 3, .invokevirtual 171, mC_upToDate, 0, 9, 25, 0, [(0, 3)]),
  (37, 3, .invokevirtual 312, mQ_leaveOut, 3, 5, 53, 0, [(0, 0)]),
  (40, 1, .aload_n 0, 0, 0, 0, 0, 0, []),
  (41, 3, .getfield 58, 9, 7, 2, 7, 0, []),
  (44, 1, .aload_n 0, 0, 0, 0, 0, 0, []),
  (45, 3, .getfield 10, 9, 0, 2, 0, 0, []),
  (48, 3, .invokevirtual 382, mQ_sum, 1, 5, 69, 0, [(0, 1)]),
  (51, 1, .aload_n 0, 0, 0, 0, 0, 0, []),
  (52, 3, .getfield 19, 9, 1, 2, 1, 0, []),
  (55, 3, .getfield 181, 2, 9, 0, 21, 0, []),
  (58, 1, .isub, 0, 0, 0, 0, 0, []),
  (59, 1, .ireturn, 0, 0, 0, 0, 0, [])]
theorem ckC_loss : cdC_loss.all (rowOK mC_loss) = true := by decide +kernel
def cdC_idle : List Row := [
  (0, 1, .aload_n 0, 0, 0, 0, 0, 0, []),
  (1, 3, .getfield 10, 9, 0, 2, 0, 0, []),
  (4, 3, .getfield 112, 7, 2, 0, 15, 0, []),
  (7, 1, .iconst 2, 0, 0, 0, 0, 2, []),
  (8, 3, .if_icmp .ge 5, 13, 0, 0, 0, 0, []),
  (11, 1, .iconst (-1), 0, 0, 0, 0, (-1), []),
  (12, 1, .ireturn, 0, 0, 0, 0, 0, []),
  (13, 1, .iconst 0, 0, 0, 0, 0, 0, []),
  (14, 1, .istore_n 1, 0, 0, 0, 0, 0, []),
  (15, 3, .ldc_w 385, 0, 0, 0, 0, 2147483647, []),
  (18, 1, .istore_n 2, 0, 0, 0, 0, 0, []),
  (19, 1, .iconst 0, 0, 0, 0, 0, 0, []),
  (20, 1, .istore_n 3, 0, 0, 0, 0, 0, []),
  (21, 1, .iload_n 3, 0, 0, 0, 0, 0, []),
  (22, 1, .aload_n 0, 0, 0, 0, 0, 0, []),
  (23, 3, .getfield 10, 9, 0, 2, 0, 0, []),
  (26, 3, .getfield 112, 7, 2, 0, 15, 0, []),
  (29, 3, .if_icmp .ge 49, 78, 0, 0, 0, 0, []),
  (32, 1, .aload_n 0, 0, 0, 0, 0, 0, []),
  (33, 3, .getfield 58, 9, 7, 2, 7, 0, []),
  (36, 1, .iload_n 3, 0, 0, 0, 0, 0, []),
  (37, 1, .aload_n 0, 0, 0, 0, 0, 0, []),
  (38, 3, .getfield 10, 9, 0, 2, 0, 0, []),
  (41, 1, .aload_n 0, 0, 0, 0, 0, 0, []),
  (42, 3, .invokevirtual 171, mC_upToDate, 0, 9, 25, 0, [(0, 3)]),
  (45, 3, .invokevirtual 312, mQ_leaveOut, 3, 5, 53, 0, [(0, 0)]),
  (48, 1, .aload_n 0, 0, 0, 0, 0, 0, []),
  (49, 3, .getfield 58, 9, 7, 2, 7, 0, []),
  (52, 1, .aload_n 0, 0, 0, 0, 0, 0, []),
  (53, 3, .getfield 10, 9, 0, 2, 0, 0, []),
  (56, 3, .invokevirtual 382, mQ_sum, 1, 5, 69, 0, [(0, 1)]),
  (59, 2, .istore 4, 0, 0, 0, 0, 0, []),
  (61, 2, .iload 4, 0, 0, 0, 0, 0, []),
  (63, 1, .iload_n 2, 0, 0, 0, 0, 0, []),
  (64, 3, .if_icmp .ge 8, 72, 0, 0, 0, 0, []),
  (67, 2, .iload 4, 0, 0, 0, 0, 0, []),
  (69, 1, .istore_n 2, 0, 0, 0, 0, 0, []),
  (70, 1, .iload_n 3, 0, 0, 0, 0, 0, []),
  (71, 1, .istore_n 1, 0, 0, 0, 0, 0, []),
  (72, 3, .iinc 3 1, 0, 0, 0, 0, 1, []),
  (75, 3, .goto (-54), 21, 0, 0, 0, 0, []),
  (78, 1, .iload_n 1, 0, 0, 0, 0, 0, []),
  (79, 1, .ireturn, 0, 0, 0, 0, 0, [])]
theorem ckC_idle : cdC_idle.all (rowOK mC_idle) = true := by decide +kernel
def cdC_more : List Row := [
  (0, 1, .aload_n 0, 0, 0, 0, 0, 0, []),
  (1, 3, .getfield 10, 9, 0, 2, 0, 0, []),
  (4, 3, .getfield 112, 7, 2, 0, 15, 0, []),
  (7, 3, .ifCond .eq 12, 19, 0, 0, 0, 0, []),
  (10, 1, .iload_n 1, 0, 0, 0, 0, 0, []),
  (11, 3, .ifCond .lt 8, 19, 0, 0, 0, 0, []),
  (14, 1, .iload_n 1, 0, 0, 0, 0, 0, []),
  (15, 1, .iconst 1, 0, 0, 0, 0, 1, []),
  (16, 3, .if_icmp .le 5, 21, 0, 0, 0, 0, []),
  (19, 1, .iconst (-1), 0, 0, 0, 0, (-1), []),
  (20, 1, .ireturn, 0, 0, 0, 0, 0, []),
  (21, 1, .aload_n 0, 0, 0, 0, 0, 0, []),
  (22, 3, .getfield 58, 9, 7, 2, 7, 0, []),
  (25, 1, .iconst (-1), 0, 0, 0, 0, (-1), []),
  (26, 1, .aload_n 0, 0, 0, 0, 0, 0, []),
  (27, 3, .getfield 10, 9, 0, 2, 0, 0, []),
  (30, 1, .aload_n 0, 0, 0, 0, 0, 0, []),
  (31, 3, .invokevirtual 171, mC_upToDate, 0, 9, 25, 0, [(0, 3)]),
  (34, 3, .invokevirtual 312, mQ_leaveOut, 3, 5, 53, 0, [(0, 0)]),
  (37, 1, .aload_n 0, 0, 0, 0, 0, 0, []),
  (38, 3, .getfield 58, 9, 7, 2, 7, 0, []),
  (41, 1, .aload_n 0, 0, 0, 0, 0, 0, []),
  (42, 3, .getfield 10, 9, 0, 2, 0, 0, []),
  (45, 3, .invokevirtual 316, mQ_findCheapest, 1, 5, 54, 0, [(0, 0)]),
  (48, 1, .iload_n 1, 0, 0, 0, 0, 0, []),
  (49, 3, .ifCond .ne 13, 62, 0, 0, 0, 0, []),
  (52, 1, .aload_n 0, 0, 0, 0, 0, 0, []),
  (53, 3, .getfield 58, 9, 7, 2, 7, 0, []),
  (56, 3, .getfield 319, 5, 1, 0, 34, 0, []),
  (59, 3, .goto 10, 69, 0, 0, 0, 0, []),
  (62, 1, .aload_n 0, 0, 0, 0, 0, 0, []),
  (63, 3, .getfield 58, 9, 7, 2, 7, 0, []),
  (66, 3, .getfield 322, 5, 2, 0, 35, 0, []),
  (69, 1, .ireturn, 0, 0, 0, 0, 0, [])]
theorem ckC_more : cdC_more.all (rowOK mC_more) = true := by decide +kernel
def cdC_tone : List Row := [
  (0, 1, .aload_n 0, 0, 0, 0, 0, 0, []),
  (1, 3, .getfield 10, 9, 0, 2, 0, 0, []),
  (4, 1, .iload_n 1, 0, 0, 0, 0, 0, []),
  (5, 1, .iload_n 2, 0, 0, 0, 0, 0, []),
  (6, 3, .invokevirtual 121, mS_holds, 2, 7, 14, 0, [(0, 1)]),
  (9, 3, .ifCond .eq 27, 36, 0, 0, 0, 0, []),
  (12, 1, .aload_n 0, 0, 0, 0, 0, 0, []),
  (13, 3, .getfield 10, 9, 0, 2, 0, 0, []),
  (16, 1, .iload_n 3, 0, 0, 0, 0, 0, []),
  (17, 2, .iload 4, 0, 0, 0, 0, 0, []),
  (19, 3, .invokevirtual 121, mS_holds, 2, 7, 14, 0, [(0, 1)]),
  (22, 3, .ifCond .eq 14, 36, 0, 0, 0, 0, []),
  (25, 1, .iload_n 1, 0, 0, 0, 0, 0, []),
  (26, 1, .iload_n 3, 0, 0, 0, 0, 0, []),
  (27, 3, .if_icmp .gt 9, 36, 0, 0, 0, 0, []),
  (30, 1, .iload_n 2, 0, 0, 0, 0, 0, []),
  (31, 2, .iload 4, 0, 0, 0, 0, 0, []),
  (33, 3, .if_icmp .le 5, 38, 0, 0, 0, 0, []),
  (36, 1, .iconst (-1), 0, 0, 0, 0, (-1), []),
  (37, 1, .ireturn, 0, 0, 0, 0, 0, []),
  (38, 2, .iload 5, 0, 0, 0, 0, 0, []),
  (40, 28, .lookupswitch 54 #[(0, 28), (1, 41)], 94, 0, 0, 0, 0, [(0, 68), (1, 81)]),
  (68, 1, .aload_n 0, 0, 0, 0, 0, 0, []),
  (69, 3, .getfield 10, 9, 0, 2, 0, 0, []),
  (72, 1, .iload_n 1, 0, 0, 0, 0, 0, []),
  (73, 1, .iload_n 2, 0, 0, 0, 0, 0, []),
  (74, 1, .iload_n 3, 0, 0, 0, 0, 0, []),
  (75, 2, .iload 4, 0, 0, 0, 0, 0, []),
  (77, 3, .invokevirtual 386, mS_greyWithin, 4, 7, 70, 0, [(0, 1)]),
  (80, 1, .ireturn, 0, 0, 0, 0, 0, []),
  (81, 1, .aload_n 0, 0, 0, 0, 0, 0, []),
  (82, 3, .getfield 10, 9, 0, 2, 0, 0, []),
  (85, 1, .iload_n 1, 0, 0, 0, 0, 0, []),
  (86, 1, .iload_n 2, 0, 0, 0, 0, 0, []),
  (87, 1, .iload_n 3, 0, 0, 0, 0, 0, []),
  (88, 2, .iload 4, 0, 0, 0, 0, 0, []),
  (90, 3, .invokevirtual 260, mS_spotsWithin, 4, 7, 42, 0, [(0, 1)]),
  (93, 1, .ireturn, 0, 0, 0, 0, 0, []),
  (94, 1, .iconst (-1), 0, 0, 0, 0, (-1), []),
  (95, 1, .ireturn, 0, 0, 0, 0, 0, [])]
theorem ckC_tone : cdC_tone.all (rowOK mC_tone) = true := by decide +kernel
def cdC_uneven : List Row := [
  (0, 1, .iload_n 1, 0, 0, 0, 0, 0, []),
  (1, 1, .iconst 1, 0, 0, 0, 0, 1, []),
  (2, 3, .if_icmp .lt 34, 36, 0, 0, 0, 0, []),
  (5, 1, .iload_n 1, 0, 0, 0, 0, 0, []),
  (6, 1, .aload_n 0, 0, 0, 0, 0, 0, []),
  (7, 3, .getfield 10, 9, 0, 2, 0, 0, []),
  (10, 3, .getfield 168, 7, 0, 0, 20, 0, []),
  (13, 3, .if_icmp .gt 23, 36, 0, 0, 0, 0, []),
  (16, 1, .iload_n 1, 0, 0, 0, 0, 0, []),
  (17, 1, .aload_n 0, 0, 0, 0, 0, 0, []),
  (18, 3, .getfield 10, 9, 0, 2, 0, 0, []),
  (21, 3, .getfield 389, 7, 1, 0, 41, 0, []),
  (24, 3, .if_icmp .gt 12, 36, 0, 0, 0, 0, []),
  (27, 1, .iload_n 2, 0, 0, 0, 0, 0, []),
  (28, 3, .ifCond .lt 8, 36, 0, 0, 0, 0, []),
  (31, 1, .iload_n 2, 0, 0, 0, 0, 0, []),
  (32, 1, .iconst 1, 0, 0, 0, 0, 1, []),
  (33, 3, .if_icmp .le 7, 40, 0, 0, 0, 0, []),
  (36, 3, .ldc_w 392, 0, 0, 0, 1, (-2147483648), []),
  (39, 1, .ireturn, 0, 0, 0, 0, 0, []),
  (40, 1, .aload_n 0, 0, 0, 0, 0, 0, []),
  (41, 3, .getfield 10, 9, 0, 2, 0, 0, []),
  (44, 1, .iconst 0, 0, 0, 0, 0, 0, []),
  (45, 1, .iconst 0, 0, 0, 0, 0, 0, []),
  (46, 1, .aload_n 0, 0, 0, 0, 0, 0, []),
  (47, 3, .getfield 10, 9, 0, 2, 0, 0, []),
  (50, 3, .getfield 168, 7, 0, 0, 20, 0, []),
  (53, 1, .iconst 1, 0, 0, 0, 0, 1, []),
  (54, 1, .isub, 0, 0, 0, 0, 0, []),
  (55, 1, .aload_n 0, 0, 0, 0, 0, 0, []),
  (56, 3, .getfield 10, 9, 0, 2, 0, 0, []),
  (59, 3, .getfield 389, 7, 1, 0, 41, 0, []),
  (62, 1, .iconst 1, 0, 0, 0, 0, 1, []),
  (63, 1, .isub, 0, 0, 0, 0, 0, []),
  (64, 3, .invokevirtual 386, mS_greyWithin, 4, 7, 70, 0, [(0, 1)]),
  (67, 1, .istore_n 3, 0, 0, 0, 0, 0, []),
  (68, 1, .iconst 0, 0, 0, 0, 0, 0, []),
  (69, 2, .istore 4, 0, 0, 0, 0, 0, []),
  (71, 1, .iconst 0, 0, 0, 0, 0, 0, []),
  (72, 2, .istore 5, 0, 0, 0, 0, 0, []),
  (74, 1, .iconst 0, 0, 0, 0, 0, 0, []),
  (75, 2, .istore 6, 0, 0, 0, 0, 0, []),
  (77, 2, .iload 6, 0, 0, 0, 0, 0, []),
  (79, 1, .iload_n 1, 0, 0, 0, 0, 0, []),
  (80, 1, .iadd, 0, 0, 0, 0, 0, []),
  (81, 1, .aload_n 0, 0, 0, 0, 0, 0, []),
  (82, 3, .getfield 10, 9, 0, 2, 0, 0, []),
  (85, 3, .getfield 389, 7, 1, 0, 41, 0, []),
  (88, 3, .if_icmp .gt 128, 216, 0, 0, 0, 0, []),
  (91, 1, .iconst 0, 0, 0, 0, 0, 0, []),
  (92, 2, .istore 7, 0, 0, 0, 0, 0, []),
  (94, 2, .iload 7, 0, 0, 0, 0, 0, []),
  (96, 1, .iload_n 1, 0, 0, 0, 0, 0, []),
  (97, 1, .iadd, 0, 0, 0, 0, 0, []),
  (98, 1, .aload_n 0, 0, 0, 0, 0, 0, []),
  (99, 3, .getfield 10, 9, 0, 2, 0, 0, []),
  (102, 3, .getfield 168, 7, 0, 0, 20, 0, []),
  (105, 3, .if_icmp .gt 105, 210, 0, 0, 0, 0, []),
  (108, 1, .aload_n 0, 0, 0, 0, 0, 0, []),
  (109, 3, .getfield 10, 9, 0, 2, 0, 0, []),
  (112, 2, .iload 7, 0, 0, 0, 0, 0, []),
  (114, 2, .iload 6, 0, 0, 0, 0, 0, []),
  (116, 2, .iload 7, 0, 0, 0, 0, 0, []),
  (118, 1, .iload_n 1, 0, 0, 0, 0, 0, []),
  (119, 1, .iadd, 0, 0, 0, 0, 0, []),
  (120, 1, .iconst 1, 0, 0, 0, 0, 1, []),
  (121, 1, .isub, 0, 0, 0, 0, 0, []),
  (122, 2, .iload 6, 0, 0, 0, 0, 0, []),
  (124, 1, .iload_n 1, 0, 0, 0, 0, 0, []),
  (125, 1, .iadd, 0, 0, 0, 0, 0, []),
  (126, 1, .iconst 1, 0, 0, 0, 0, 1, []),
  (127, 1, .isub, 0, 0, 0, 0, 0, []),
  (128, 3, .invokevirtual 260, mS_spotsWithin, 4, 7, 42, 0, [(0, 1)]),
  (131, 1, .iload_n 3, 0, 0, 0, 0, 0, []),
  (132, 1, .imul, 0, 0, 0, 0, 0, []),
  (133, 2, .istore 8, 0, 0, 0, 0, 0, []),
  (135, 1, .aload_n 0, 0, 0, 0, 0, 0, []),
  (136, 3, .getfield 10, 9, 0, 2, 0, 0, []),
  (139, 2, .iload 7, 0, 0, 0, 0, 0, []),
  (141, 2, .iload 6, 0, 0, 0, 0, 0, []),
  (143, 2, .iload 7, 0, 0, 0, 0, 0, []),
  (145, 1, .iload_n 1, 0, 0, 0, 0, 0, []),
  (146, 1, .iadd, 0, 0, 0, 0, 0, []),
  (147, 1, .iconst 1, 0, 0, 0, 0, 1, []),
  (148, 1, .isub, 0, 0, 0, 0, 0, []),
  (149, 2, .iload 6, 0, 0, 0, 0, 0, []),
  (151, 1, .iload_n 1, 0, 0, 0, 0, 0, []),
  (152, 1, .iadd, 0, 0, 0, 0, 0, []),
  (153, 1, .iconst 1, 0, 0, 0, 0, 1, []),
  (154, 1, .isub, 0, 0, 0, 0, 0, []),
  (155, 3, .invokevirtual 386, mS_greyWithin, 4, 7, 70, 0, [(0, 1)]),
  (158, 1, .aload_n 0, 0, 0, 0, 0, 0, []),
  (159, 3, .getfield 10, 9, 0, 2, 0, 0, []),
  (162, 3, .getfield 112, 7, 2, 0, 15, 0, []),
  (165, 1, .imul, 0, 0, 0, 0, 0, []),
  (166, 2, .istore 9, 0, 0, 0, 0, 0, []),
  (168, 2, .iload 8, 0, 0, 0, 0, 0, []),
  (170, 2, .iload 9, 0, 0, 0, 0, 0, []),
  (172, 1, .isub, 0, 0, 0, 0, 0, []),
  (173, 3, .invokestatic 282, 0, 0, 5, 47, 0, []),
  (176, 2, .iload 5, 0, 0, 0, 0, 0, []),
  (178, 3, .invokestatic 282, 0, 0, 5, 47, 0, []),
  (181, 3, .if_icmp .le 23, 204, 0, 0, 0, 0, []),
  (184, 2, .iload 8, 0, 0, 0, 0, 0, []),
  (186, 2, .iload 9, 0, 0, 0, 0, 0, []),
  (188, 1, .isub, 0, 0, 0, 0, 0, []),
  (189, 2, .istore 5, 0, 0, 0, 0, 0, []),
  (191, 1, .aload_n 0, 0, 0, 0, 0, 0, []),
  (192, 3, .getfield 10, 9, 0, 2, 0, 0, []),
  (195, 2, .iload 7, 0, 0, 0, 0, 0, []),
  (197, 2, .iload 6, 0, 0, 0, 0, 0, []),
  (199, 3, .invokevirtual 251, mS_numberOf, 2, 7, 41, 0, [(0, 1)]),
  (202, 2, .istore 4, 0, 0, 0, 0, 0, []),
  (204, 3, .iinc 7 1, 0, 0, 0, 0, 1, []),
  (207, 3, .goto (-113), 94, 0, 0, 0, 0, []),
  (210, 3, .iinc 6 1, 0, 0, 0, 0, 1, []),
  (213, 3, .goto (-136), 77, 0, 0, 0, 0, []),
  (216, 1, .iload_n 2, 0, 0, 0, 0, 0, []),
  (217, 3, .ifCond .ne 8, 225, 0, 0, 0, 0, []),
  (220, 2, .iload 4, 0, 0, 0, 0, 0, []),
  (222, 3, .goto 5, 227, 0, 0, 0, 0, []),
  (225, 2, .iload 5, 0, 0, 0, 0, 0, []),
  (227, 1, .ireturn, 0, 0, 0, 0, 0, [])]
theorem ckC_uneven_0 : ((cdC_uneven.drop 0).take 60).all (rowOK mC_uneven) = true := by decide +kernel
theorem ckC_uneven_60 : ((cdC_uneven.drop 60).take 60).all (rowOK mC_uneven) = true := by decide +kernel
theorem ckC_uneven_120 : ((cdC_uneven.drop 120).take 60).all (rowOK mC_uneven) = true := by decide +kernel
theorem ckC_uneven : cdC_uneven.all (rowOK mC_uneven) = true := by
  have h : (cdC_uneven.drop 0).all (rowOK mC_uneven) = true := (all_cut 60 ckC_uneven_0 (by rw [List.drop_drop]; exact (all_cut 60 ckC_uneven_60 (by rw [List.drop_drop]; exact (all_cut 60 ckC_uneven_120 (by rw [List.drop_drop]; exact (by rw [show cdC_uneven.drop 180 = [] from rfl]; rfl)))))))
  exact h
def cdC_against : List Row := [
  (0, 1, .iload_n 1, 0, 0, 0, 0, 0, []),
  (1, 3, .invokestatic 393, mC_isBox, 1, 0, 71, 0, [(0, 1)]),
  (4, 3, .ifCond .eq 34, 38, 0, 0, 0, 0, []),
  (7, 1, .aload_n 0, 0, 0, 0, 0, 0, []),
  (8, 3, .getfield 71, 9, 9, 2, 9, 0, []),
  (11, 1, .iload_n 1, 0, 0, 0, 0, 0, []),
  (12, 1, .aaload, 0, 0, 4, 0, 0, []),
  (13, 3, .getfield 106, 1, 0, 3, 14, 0, []),
  (16, 3, .ifCond .eq 22, 38, 0, 0, 0, 0, []),
  (19, 1, .aload_n 0, 0, 0, 0, 0, 0, []),
  (20, 3, .getfield 71, 9, 9, 2, 9, 0, []),
  (23, 1, .iload_n 1, 0, 0, 0, 0, 0, []),
  (24, 1, .aaload, 0, 0, 4, 0, 0, []),
  (25, 3, .getfield 396, 1, 1, 2, 42, 0, []),
  (28, 1, .aload_n 0, 0, 0, 0, 0, 0, []),
  (29, 3, .getfield 10, 9, 0, 2, 0, 0, []),
  (32, 3, .invokevirtual 399, mS_isAsLargeAs, 1, 7, 72, 0, [(0, 1)]),
  (35, 3, .ifCond .ne 5, 40, 0, 0, 0, 0, []),
  (38, 1, .iconst (-1), 0, 0, 0, 0, (-1), []),
  (39, 1, .ireturn, 0, 0, 0, 0, 0, []),
  (40, 1, .iload_n 2, 0, 0, 0, 0, 0, []),
  (41, 27, .tableswitch 73 0 2 #[27, 45, 59], 114, 0, 0, 0, 0, [(0, 68), (1, 86), (2, 100)]),
  (68, 1, .aload_n 0, 0, 0, 0, 0, 0, []),
  (69, 3, .getfield 71, 9, 9, 2, 9, 0, []),
  (72, 1, .iload_n 1, 0, 0, 0, 0, 0, []),
  (73, 1, .aaload, 0, 0, 4, 0, 0, []),
  (74, 1, .aload_n 0, 0, 0, 0, 0, 0, []),
  (75, 3, .getfield 10, 9, 0, 2, 0, 0, []),
  (78, 1, .aload_n 0, 0, 0, 0, 0, 0, []),
  (79, 3, .invokevirtual 171, mC_upToDate, 0, 9, 25, 0, [(0, 3)]),
  (82, 3, .invokevirtual 403, mB_otherOwners, 2, 1, 73, 0, [(0, 1)]),
  (85, 1, .ireturn, 0, 0, 0, 0, 0, []),
  (86, 1, .aload_n 0, 0, 0, 0, 0, 0, []),
  (87, 3, .getfield 71, 9, 9, 2, 9, 0, []),
  (90, 1, .iload_n 1, 0, 0, 0, 0, 0, []),
  (91, 1, .aaload, 0, 0, 4, 0, 0, []),
  (92, 1, .aload_n 0, 0, 0, 0, 0, 0, []),
  (93, 3, .getfield 10, 9, 0, 2, 0, 0, []),
  (96, 3, .invokevirtual 407, mB_otherWeights, 1, 1, 74, 0, [(0, 1)]),
  (99, 1, .ireturn, 0, 0, 0, 0, 0, []),
  (100, 1, .aload_n 0, 0, 0, 0, 0, 0, []),
  (101, 3, .getfield 71, 9, 9, 2, 9, 0, []),
  (104, 1, .iload_n 1, 0, 0, 0, 0, 0, []),
  (105, 1, .aaload, 0, 0, 4, 0, 0, []),
  (106, 1, .aload_n 0, 0, 0, 0, 0, 0, []),
  (107, 3, .getfield 10, 9, 0, 2, 0, 0, []),
  (110, 3, .invokevirtual 410, mB_otherDots, 1, 1, 75, 0, [(0, 1)]),
  (113, 1, .ireturn, 0, 0, 0, 0, 0, []),
  (114, 1, .iconst (-1), 0, 0, 0, 0, (-1), []),
  (115, 1, .ireturn, 0, 0, 0, 0, 0, [])]
theorem ckC_against : cdC_against.all (rowOK mC_against) = true := by decide +kernel
def cdC_image : List Row := [
  (0, 1, .iload_n 1, 0, 0, 0, 0, 0, []),
  (1, 3, .invokestatic 393, mC_isBox, 1, 0, 71, 0, [(0, 1)]),
  (4, 3, .ifCond .ne 5, 9, 0, 0, 0, 0, []),
  (7, 1, .iconst (-1), 0, 0, 0, 0, (-1), []),
  (8, 1, .ireturn, 0, 0, 0, 0, 0, []),
  (9, 1, .aload_n 0, 0, 0, 0, 0, 0, []),
  (10, 3, .getfield 71, 9, 9, 2, 9, 0, []),
  (13, 1, .iload_n 1, 0, 0, 0, 0, 0, []),
  (14, 1, .aaload, 0, 0, 4, 0, 0, []),
  (15, 1, .aload_n 0, 0, 0, 0, 0, 0, []),
  (16, 3, .getfield 10, 9, 0, 2, 0, 0, []),
  (19, 1, .aload_n 0, 0, 0, 0, 0, 0, []),
  (20, 3, .invokevirtual 171, mC_upToDate, 0, 9, 25, 0, [(0, 3)]),
  (23, 3, .invokevirtual 413, mB_keep, 2, 1, 76, 0, [(0, 0)]),
  (26, 1, .aload_n 0, 0, 0, 0, 0, 0, []),
  (27, 3, .getfield 10, 9, 0, 2, 0, 0, []),
  (30, 3, .getfield 112, 7, 2, 0, 15, 0, []),
  (33, 1, .ireturn, 0, 0, 0, 0, 0, [])]
theorem ckC_image : cdC_image.all (rowOK mC_image) = true := by decide +kernel
def cdC_back : List Row := [
  (0, 1, .iload_n 1, 0, 0, 0, 0, 0, []),
  (1, 3, .invokestatic 393, mC_isBox, 1, 0, 71, 0, [(0, 1)]),
  (4, 3, .ifCond .eq 15, 19, 0, 0, 0, 0, []),
  (7, 1, .aload_n 0, 0, 0, 0, 0, 0, []),
  (8, 3, .getfield 71, 9, 9, 2, 9, 0, []),
  (11, 1, .iload_n 1, 0, 0, 0, 0, 0, []),
  (12, 1, .aaload, 0, 0, 4, 0, 0, []),
  (13, 3, .getfield 106, 1, 0, 3, 14, 0, []),
  (16, 3, .ifCond .ne 5, 21, 0, 0, 0, 0, []),
  (19, 1, .iconst (-1), 0, 0, 0, 0, (-1), []),
  (20, 1, .ireturn, 0, 0, 0, 0, 0, []),
  (21, 1, .aload_n 0, 0, 0, 0, 0, 0, []),
  (22, 3, .getfield 10, 9, 0, 2, 0, 0, []),
  (25, 1, .aload_n 0, 0, 0, 0, 0, 0, []),
  (26, 3, .getfield 71, 9, 9, 2, 9, 0, []),
  (29, 1, .iload_n 1, 0, 0, 0, 0, 0, []),
  (30, 1, .aaload, 0, 0, 4, 0, 0, []),
  (31, 3, .getfield 396, 1, 1, 2, 42, 0, []),
  (34, 3, .invokevirtual 415, mS_copy, 1, 7, 77, 0, [(0, 0)]),
  (37, 1, .aload_n 0, 0, 0, 0, 0, 0, []),
  (38, 3, .invokevirtual 109, mC_startAnew, 0, 9, 13, 0, [(0, 0)]),
  (41, 1, .aload_n 0, 0, 0, 0, 0, 0, []),
  (42, 3, .getfield 10, 9, 0, 2, 0, 0, []),
  (45, 3, .getfield 112, 7, 2, 0, 15, 0, []),
  (48, 1, .ireturn, 0, 0, 0, 0, 0, [])]
theorem ckC_back : cdC_back.all (rowOK mC_back) = true := by decide +kernel
def cdC_about : List Row := [
  (0, 1, .iload_n 1, 0, 0, 0, 0, 0, []),
  (1, 55, .tableswitch 152 0 9 #[55, 63, 71, 79, 107, 115, 120, 128, 136, 144], 153, 0, 0, 0, 0, [(0, 56), (1, 64), (2, 72), (3, 80), (4, 108), (5, 116), (6, 121), (7, 129), (8, 137), (9, 145)]),
  (56, 1, .aload_n 0, 0, 0, 0, 0, 0, []),
  (57, 3, .getfield 10, 9, 0, 2, 0, 0, []),
  (60, 3, .getfield 168, 7, 0, 0, 20, 0, []),
  (63, 1, .ireturn, 0, 0, 0, 0, 0, []),
  (64, 1, .aload_n 0, 0, 0, 0, 0, 0, []),
  (65, 3, .getfield 10, 9, 0, 2, 0, 0, []),
  (68, 3, .getfield 389, 7, 1, 0, 41, 0, []),
  (71, 1, .ireturn, 0, 0, 0, 0, 0, []),
  (72, 1, .aload_n 0, 0, 0, 0, 0, 0, []),
  (73, 3, .getfield 10, 9, 0, 2, 0, 0, []),
  (76, 3, .getfield 112, 7, 2, 0, 15, 0, []),
  (79, 1, .ireturn, 0, 0, 0, 0, 0, []),
  (80, 1, .aload_n 0, 0, 0, 0, 0, 0, []),
  (81, 3, .getfield 10, 9, 0, 2, 0, 0, []),
  (84, 1, .iconst 0, 0, 0, 0, 0, 0, []),
  (85, 1, .iconst 0, 0, 0, 0, 0, 0, []),
  (86, 1, .aload_n 0, 0, 0, 0, 0, 0, []),
  (87, 3, .getfield 10, 9, 0, 2, 0, 0, []),
  (90, 3, .getfield 168, 7, 0, 0, 20, 0, []),
  (93, 1, .iconst 1, 0, 0, 0, 0, 1, []),
  (94, 1, .isub, 0, 0, 0, 0, 0, []),
  (95, 1, .aload_n 0, 0, 0, 0, 0, 0, []),
  (96, 3, .getfield 10, 9, 0, 2, 0, 0, []),
  (99, 3, .getfield 389, 7, 1, 0, 41, 0, []),
  (102, 1, .iconst 1, 0, 0, 0, 0, 1, []),
  (103, 1, .isub, 0, 0, 0, 0, 0, []),
  (104, 3, .invokevirtual 386, mS_greyWithin, 4, 7, 70, 0, [(0, 1)]),
  (107, 1, .ireturn, 0, 0, 0, 0, 0, []),
  (108, 1, .aload_n 0, 0, 0, 0, 0, 0, []),
  (109, 3, .invokevirtual 171, mC_upToDate, 0, 9, 25, 0, [(0, 3)]),
  (112, 3, .getfield 181, 2, 9, 0, 21, 0, []),
  (115, 1, .ireturn, 0, 0, 0, 0, 0, []),
  (116, 1, .aload_n 0, 0, 0, 0, 0, 0, []),
  (117, 3, .invokevirtual 418, mC_emptyDots, 0, 9, 78, 0, [(0, 1)]),
  (120, 1, .ireturn, 0, 0, 0, 0, 0, []),
  (121, 1, .aload_n 0, 0, 0, 0, 0, 0, []),
  (122, 3, .getfield 10, 9, 0, 2, 0, 0, []),
  (125, 3, .getfield 158, 7, 3, 0, 18, 0, []),
  (128, 1, .ireturn, 0, 0, 0, 0, 0, []),
  (129, 1, .aload_n 0, 0, 0, 0, 0, 0, []),
  (130, 3, .getfield 37, 9, 4, 2, 4, 0, []),
  (133, 3, .getfield 211, 4, 2, 0, 23, 0, []),
  (136, 1, .ireturn, 0, 0, 0, 0, 0, []),
  (137, 1, .aload_n 0, 0, 0, 0, 0, 0, []),
  (138, 3, .getfield 37, 9, 4, 2, 4, 0, []),
  (141, 3, .getfield 223, 4, 3, 0, 24, 0, []),
  (144, 1, .ireturn, 0, 0, 0, 0, 0, []),
  (145, 1, .aload_n 0, 0, 0, 0, 0, 0, []),
  (146, 3, .getfield 30, 9, 3, 2, 3, 0, []),
  (149, 3, .getfield 95, 6, 0, 0, 13, 0, []),
  (152, 1, .ireturn, 0, 0, 0, 0, 0, []),
  (153, 1, .iconst (-1), 0, 0, 0, 0, (-1), []),
  (154, 1, .ireturn, 0, 0, 0, 0, 0, [])]
theorem ckC_about : cdC_about.all (rowOK mC_about) = true := by decide +kernel
def cdC_upToDate : List Row := [
  (0, 1, .aload_n 0, 0, 0, 0, 0, 0, []),
  (1, 3, .getfield 23, 9, 2, 3, 2, 0, []),
  (4, 3, .ifCond .ne 19, 23, 0, 0, 0, 0, []),
  (7, 1, .aload_n 0, 0, 0, 0, 0, 0, []),
  (8, 3, .getfield 19, 9, 1, 2, 1, 0, []),
  (11, 1, .aload_n 0, 0, 0, 0, 0, 0, []),
  (12, 3, .getfield 10, 9, 0, 2, 0, 0, []),
  (15, 3, .invokevirtual 422, mF_survey, 1, 2, 79, 0, [(0, 0)]),
  (18, 1, .aload_n 0, 0, 0, 0, 0, 0, []),
  (19, 1, .iconst 1, 0, 0, 0, 0, 1, []),
  (20, 3, .putfield 23, 9, 2, 3, 2, 0, []),
  (23, 1, .aload_n 0, 0, 0, 0, 0, 0, []),
  (24, 3, .getfield 19, 9, 1, 2, 1, 0, []),
  (27, 1, .areturn, 0, 0, 0, 0, 0, [])]
theorem ckC_upToDate : cdC_upToDate.all (rowOK mC_upToDate) = true := by decide +kernel
def cdC_forgetWhatWasSeen : List Row := [
  (0, 1, .aload_n 0, 0, 0, 0, 0, 0, []),
  (1, 1, .iconst 0, 0, 0, 0, 0, 0, []),
  (2, 3, .putfield 23, 9, 2, 3, 2, 0, []),
  (5, 1, .aload_n 0, 0, 0, 0, 0, 0, []),
  (6, 3, .getfield 51, 9, 6, 2, 6, 0, []),
  (9, 3, .invokevirtual 178, mA_forget, 0, 0, 27, 0, [(0, 0)]),
  (12, 1, .return_, 0, 0, 0, 0, 0, [])]
theorem ckC_forgetWhatWasSeen : cdC_forgetWhatWasSeen.all (rowOK mC_forgetWhatWasSeen) = true := by decide +kernel
def cdC_beginAct : List Row := [
  (0, 1, .aload_n 0, 0, 0, 0, 0, 0, []),
  (1, 3, .getfield 37, 9, 4, 2, 4, 0, []),
  (4, 1, .aload_n 0, 0, 0, 0, 0, 0, []),
  (5, 3, .getfield 10, 9, 0, 2, 0, 0, []),
  (8, 3, .invokevirtual 175, mP_keep, 1, 4, 26, 0, [(0, 3)]),
  (11, 1, .astore_n 1, 0, 0, 0, 0, 0, []),
  (12, 1, .aload_n 0, 0, 0, 0, 0, 0, []),
  (13, 3, .getfield 44, 9, 5, 2, 5, 0, []),
  (16, 3, .invokevirtual 220, mT_clear, 0, 8, 37, 0, [(0, 0)]),
  (19, 1, .aload_n 0, 0, 0, 0, 0, 0, []),
  (20, 3, .invokevirtual 217, mC_forgetWhatWasSeen, 0, 9, 36, 0, [(0, 0)]),
  (23, 1, .aload_n 1, 0, 0, 0, 0, 0, []),
  (24, 1, .areturn, 0, 0, 0, 0, 0, [])]
theorem ckC_beginAct : cdC_beginAct.all (rowOK mC_beginAct) = true := by decide +kernel
def cdC_startAnew : List Row := [
  (0, 1, .aload_n 0, 0, 0, 0, 0, 0, []),
  (1, 3, .getfield 37, 9, 4, 2, 4, 0, []),
  (4, 3, .invokevirtual 425, mP_clear, 0, 4, 80, 0, [(0, 0)]),
  (7, 1, .aload_n 0, 0, 0, 0, 0, 0, []),
  (8, 3, .getfield 44, 9, 5, 2, 5, 0, []),
  (11, 3, .invokevirtual 220, mT_clear, 0, 8, 37, 0, [(0, 0)]),
  (14, 1, .aload_n 0, 0, 0, 0, 0, 0, []),
  (15, 3, .invokevirtual 217, mC_forgetWhatWasSeen, 0, 9, 36, 0, [(0, 0)]),
  (18, 1, .return_, 0, 0, 0, 0, 0, [])]
theorem ckC_startAnew : cdC_startAnew.all (rowOK mC_startAnew) = true := by decide +kernel
def cdC_isBox : List Row := [
  (0, 1, .iload_n 0, 0, 0, 0, 0, 0, []),
  (1, 3, .ifCond .lt 12, 13, 0, 0, 0, 0, []),
  (4, 1, .iload_n 0, 0, 0, 0, 0, 0, []),
  (5, 1, .iconst 2, 0, 0, 0, 0, 2, []),
  (6, 3, .if_icmp .ge 7, 13, 0, 0, 0, 0, []),
  (9, 1, .iconst 1, 0, 0, 0, 0, 1, []),
  (10, 3, .goto 4, 14, 0, 0, 0, 0, []),
  (13, 1, .iconst 0, 0, 0, 0, 0, 0, []),
  (14, 1, .ireturn, 0, 0, 1, 0, 0, [])]
theorem ckC_isBox : cdC_isBox.all (rowOK mC_isBox) = true := by decide +kernel
def cdC_countLeft : List Row := [
  (0, 1, .iconst 0, 0, 0, 0, 0, 0, []),
  (1, 1, .istore_n 3, 0, 0, 0, 0, 0, []),
  (2, 1, .iconst 0, 0, 0, 0, 0, 0, []),
  (3, 2, .istore 4, 0, 0, 0, 0, 0, []),
  (5, 2, .iload 4, 0, 0, 0, 0, 0, []),
  (7, 1, .aload_n 0, 0, 0, 0, 0, 0, []),
  (8, 3, .getfield 10, 9, 0, 2, 0, 0, []),
  (11, 3, .getfield 112, 7, 2, 0, 15, 0, []),
  (14, 3, .if_icmp .ge 23, 37, 0, 0, 0, 0, []),
  (17, 1, .aload_n 1, 0, 0, 0, 0, 0, []),
  (18, 3, .getfield 197, 2, 5, 2, 22, 0, []),
  (21, 2, .iload 4, 0, 0, 0, 0, 0, []),
  (23, 1, .iaload, 0, 0, 0, 0, 0, []),
  (24, 1, .iload_n 2, 0, 0, 0, 0, 0, []),
  (25, 3, .if_icmp .lt 6, 31, 0, 0, 0, 0, []),
  (28, 3, .iinc 3 1, 0, 0, 0, 0, 1, []),
  (31, 3, .iinc 4 1, 0, 0, 0, 0, 1, []),
  (34, 3, .goto (-29), 5, 0, 0, 0, 0, []),
  (37, 1, .iload_n 3, 0, 0, 0, 0, 0, []),
  (38, 1, .ireturn, 0, 0, 0, 0, 0, [])]
theorem ckC_countLeft : cdC_countLeft.all (rowOK mC_countLeft) = true := by decide +kernel
def cdC_planAdded : List Row := [
  (0, 1, .iconst 0, 0, 0, 0, 0, 0, []),
  (1, 2, .istore 4, 0, 0, 0, 0, 0, []),
  (3, 1, .iconst 0, 0, 0, 0, 0, 0, []),
  (4, 2, .istore 5, 0, 0, 0, 0, 0, []),
  (6, 2, .iload 5, 0, 0, 0, 0, 0, []),
  (8, 1, .aload_n 0, 0, 0, 0, 0, 0, []),
  (9, 3, .getfield 10, 9, 0, 2, 0, 0, []),
  (12, 3, .getfield 112, 7, 2, 0, 15, 0, []),
  (15, 3, .if_icmp .ge 62, 77, 0, 0, 0, 0, []),
  (18, 1, .iload_n 2, 0, 0, 0, 0, 0, []),
  (19, 2, .iload 4, 0, 0, 0, 0, 0, []),
  (21, 1, .iadd, 0, 0, 0, 0, 0, []),
  (22, 2, .bipush 40, 0, 0, 0, 0, 40, []),
  (24, 3, .if_icmp .ge 53, 77, 0, 0, 0, 0, []),
  (27, 1, .aload_n 1, 0, 0, 0, 0, 0, []),
  (28, 3, .getfield 197, 2, 5, 2, 22, 0, []),
  (31, 2, .iload 5, 0, 0, 0, 0, 0, []),
  (33, 1, .iaload, 0, 0, 0, 0, 0, []),
  (34, 1, .iload_n 3, 0, 0, 0, 0, 0, []),
  (35, 3, .if_icmp .gt 6, 41, 0, 0, 0, 0, []),
  (38, 3, .goto 33, 71, 0, 0, 0, 0, []),
  (41, 1, .aload_n 1, 0, 0, 0, 0, 0, []),
  (42, 2, .iload 5, 0, 0, 0, 0, 0, []),
  (44, 1, .aload_n 0, 0, 0, 0, 0, 0, []),
  (45, 3, .getfield 10, 9, 0, 2, 0, 0, []),
  (48, 3, .invokevirtual 426, mF_worstOf, 2, 2, 81, 0, [(0, 1)]),
  (51, 2, .istore 6, 0, 0, 0, 0, 0, []),
  (53, 2, .iload 6, 0, 0, 0, 0, 0, []),
  (55, 1, .iconst (-1), 0, 0, 0, 0, (-1), []),
  (56, 3, .if_icmp .eq 15, 71, 0, 0, 0, 0, []),
  (59, 1, .aload_n 0, 0, 0, 0, 0, 0, []),
  (60, 3, .getfield 79, 9, 11, 2, 11, 0, []),
  (63, 2, .iload 4, 0, 0, 0, 0, 0, []),
  (65, 2, .iload 6, 0, 0, 0, 0, 0, []),
  (67, 1, .iastore, 0, 0, 0, 0, 0, []),
  (68, 3, .iinc 4 1, 0, 0, 0, 0, 1, []),
  (71, 3, .iinc 5 1, 0, 0, 0, 0, 1, []),
  (74, 3, .goto (-68), 6, 0, 0, 0, 0, []),
  (77, 2, .iload 4, 0, 0, 0, 0, 0, []),
  (79, 1, .ireturn, 0, 0, 0, 0, 0, [])]
theorem ckC_planAdded : cdC_planAdded.all (rowOK mC_planAdded) = true := by decide +kernel
def cdC_firstGreatest : List Row := [
  (0, 1, .iconst 0, 0, 0, 0, 0, 0, []),
  (1, 1, .istore_n 2, 0, 0, 0, 0, 0, []),
  (2, 1, .iconst 1, 0, 0, 0, 0, 1, []),
  (3, 1, .istore_n 3, 0, 0, 0, 0, 0, []),
  (4, 1, .iload_n 3, 0, 0, 0, 0, 0, []),
  (5, 1, .aload_n 0, 0, 0, 0, 0, 0, []),
  (6, 3, .getfield 10, 9, 0, 2, 0, 0, []),
  (9, 3, .getfield 112, 7, 2, 0, 15, 0, []),
  (12, 3, .if_icmp .ge 20, 32, 0, 0, 0, 0, []),
  (15, 1, .aload_n 1, 0, 0, 0, 0, 0, []),
  (16, 1, .iload_n 3, 0, 0, 0, 0, 0, []),
  (17, 1, .iaload, 0, 0, 0, 0, 0, []),
  (18, 1, .aload_n 1, 0, 0, 0, 0, 0, []),
  (19, 1, .iload_n 2, 0, 0, 0, 0, 0, []),
  (20, 1, .iaload, 0, 0, 0, 0, 0, []),
  (21, 3, .if_icmp .le 5, 26, 0, 0, 0, 0, []),
  (24, 1, .iload_n 3, 0, 0, 0, 0, 0, []),
  (25, 1, .istore_n 2, 0, 0, 0, 0, 0, []),
  (26, 3, .iinc 3 1, 0, 0, 0, 0, 1, []),
  (29, 3, .goto (-25), 4, 0, 0, 0, 0, []),
  (32, 1, .iload_n 2, 0, 0, 0, 0, 0, []),
  (33, 1, .ireturn, 0, 0, 0, 0, 0, [])]
theorem ckC_firstGreatest : cdC_firstGreatest.all (rowOK mC_firstGreatest) = true := by decide +kernel
def cdC_leastOf : List Row := [
  (0, 3, .ldc_w 385, 0, 0, 0, 0, 2147483647, []),
  (3, 1, .istore_n 2, 0, 0, 0, 0, 0, []),
  (4, 1, .iconst 0, 0, 0, 0, 0, 0, []),
  (5, 1, .istore_n 3, 0, 0, 0, 0, 0, []),
  (6, 1, .iload_n 3, 0, 0, 0, 0, 0, []),
  (7, 1, .aload_n 0, 0, 0, 0, 0, 0, []),
  (8, 3, .getfield 10, 9, 0, 2, 0, 0, []),
  (11, 3, .getfield 112, 7, 2, 0, 15, 0, []),
  (14, 3, .if_icmp .ge 17, 31, 0, 0, 0, 0, []),
  (17, 1, .iload_n 2, 0, 0, 0, 0, 0, []),
  (18, 1, .aload_n 1, 0, 0, 0, 0, 0, []),
  (19, 1, .iload_n 3, 0, 0, 0, 0, 0, []),
  (20, 1, .iaload, 0, 0, 0, 0, 0, []),
  (21, 3, .invokestatic 429, 0, 0, 3, 82, 0, []),
  (24, 1, .istore_n 2, 0, 0, 0, 0, 0, []),
  (25, 3, .iinc 3 1, 0, 0, 0, 0, 1, []),
  (28, 3, .goto (-22), 6, 0, 0, 0, 0, []),
  (31, 1, .iload_n 2, 0, 0, 0, 0, 0, []),
  (32, 1, .ireturn, 0, 0, 0, 0, 0, [])]
theorem ckC_leastOf : cdC_leastOf.all (rowOK mC_leastOf) = true := by decide +kernel
def cdC_emptyDots : List Row := [
  (0, 1, .iconst 0, 0, 0, 0, 0, 0, []),
  (1, 1, .istore_n 1, 0, 0, 0, 0, 0, []),
  (2, 1, .iconst 0, 0, 0, 0, 0, 0, []),
  (3, 1, .istore_n 2, 0, 0, 0, 0, 0, []),
  (4, 1, .iload_n 2, 0, 0, 0, 0, 0, []),
  (5, 1, .aload_n 0, 0, 0, 0, 0, 0, []),
  (6, 3, .getfield 10, 9, 0, 2, 0, 0, []),
  (9, 3, .getfield 112, 7, 2, 0, 15, 0, []),
  (12, 3, .if_icmp .ge 24, 36, 0, 0, 0, 0, []),
  (15, 1, .aload_n 0, 0, 0, 0, 0, 0, []),
  (16, 3, .invokevirtual 171, mC_upToDate, 0, 9, 25, 0, [(0, 3)]),
  (19, 3, .getfield 197, 2, 5, 2, 22, 0, []),
  (22, 1, .iload_n 2, 0, 0, 0, 0, 0, []),
  (23, 1, .iaload, 0, 0, 0, 0, 0, []),
  (24, 3, .ifCond .ne 6, 30, 0, 0, 0, 0, []),
  (27, 3, .iinc 1 1, 0, 0, 0, 0, 1, []),
  (30, 3, .iinc 2 1, 0, 0, 0, 0, 1, []),
  (33, 3, .goto (-29), 4, 0, 0, 0, 0, []),
  (36, 1, .iload_n 1, 0, 0, 0, 0, 0, []),
  (37, 1, .ireturn, 0, 0, 0, 0, 0, [])]
theorem ckC_emptyDots : cdC_emptyDots.all (rowOK mC_emptyDots) = true := by decide +kernel
def cdC_cellsOfShade : List Row := [
  (0, 1, .iconst 0, 0, 0, 0, 0, 0, []),
  (1, 1, .istore_n 2, 0, 0, 0, 0, 0, []),
  (2, 1, .iconst 0, 0, 0, 0, 0, 0, []),
  (3, 1, .istore_n 3, 0, 0, 0, 0, 0, []),
  (4, 1, .iload_n 3, 0, 0, 0, 0, 0, []),
  (5, 1, .aload_n 0, 0, 0, 0, 0, 0, []),
  (6, 3, .getfield 10, 9, 0, 2, 0, 0, []),
  (9, 3, .invokevirtual 432, mS_size, 0, 7, 83, 0, [(0, 1)]),
  (12, 3, .if_icmp .ge 25, 37, 0, 0, 0, 0, []),
  (15, 1, .aload_n 0, 0, 0, 0, 0, 0, []),
  (16, 3, .getfield 10, 9, 0, 2, 0, 0, []),
  (19, 3, .getfield 165, 7, 4, 2, 19, 0, []),
  (22, 1, .iload_n 3, 0, 0, 0, 0, 0, []),
  (23, 1, .iaload, 0, 0, 0, 0, 0, []),
  (24, 1, .iload_n 1, 0, 0, 0, 0, 0, []),
  (25, 3, .if_icmp .ne 6, 31, 0, 0, 0, 0, []),
  (28, 3, .iinc 2 1, 0, 0, 0, 0, 1, []),
  (31, 3, .iinc 3 1, 0, 0, 0, 0, 1, []),
  (34, 3, .goto (-30), 4, 0, 0, 0, 0, []),
  (37, 1, .iload_n 2, 0, 0, 0, 0, 0, []),
  (38, 1, .ireturn, 0, 0, 0, 0, 0, [])]
theorem ckC_cellsOfShade : cdC_cellsOfShade.all (rowOK mC_cellsOfShade) = true := by decide +kernel
def cdC_spotsOfShade : List Row := [
  (0, 1, .iconst 0, 0, 0, 0, 0, 0, []),
  (1, 1, .istore_n 2, 0, 0, 0, 0, 0, []),
  (2, 1, .iconst 0, 0, 0, 0, 0, 0, []),
  (3, 1, .istore_n 3, 0, 0, 0, 0, 0, []),
  (4, 1, .iload_n 3, 0, 0, 0, 0, 0, []),
  (5, 1, .aload_n 0, 0, 0, 0, 0, 0, []),
  (6, 3, .getfield 10, 9, 0, 2, 0, 0, []),
  (9, 3, .getfield 112, 7, 2, 0, 15, 0, []),
  (12, 3, .if_icmp .ge 32, 44, 0, 0, 0, 0, []),
  (15, 1, .aload_n 0, 0, 0, 0, 0, 0, []),
  (16, 3, .getfield 10, 9, 0, 2, 0, 0, []),
  (19, 3, .getfield 165, 7, 4, 2, 19, 0, []),
  (22, 1, .aload_n 0, 0, 0, 0, 0, 0, []),
  (23, 3, .getfield 10, 9, 0, 2, 0, 0, []),
  (26, 1, .iload_n 3, 0, 0, 0, 0, 0, []),
  (27, 3, .invokevirtual 244, mS_spotOf, 1, 7, 39, 0, [(0, 1)]),
  (30, 1, .iaload, 0, 0, 0, 0, 0, []),
  (31, 1, .iload_n 1, 0, 0, 0, 0, 0, []),
  (32, 3, .if_icmp .ne 6, 38, 0, 0, 0, 0, []),
  (35, 3, .iinc 2 1, 0, 0, 0, 0, 1, []),
  (38, 3, .iinc 3 1, 0, 0, 0, 0, 1, []),
  (41, 3, .goto (-37), 4, 0, 0, 0, 0, []),
  (44, 1, .iload_n 2, 0, 0, 0, 0, 0, []),
  (45, 1, .ireturn, 0, 0, 0, 0, 0, [])]
theorem ckC_spotsOfShade : cdC_spotsOfShade.all (rowOK mC_spotsOfShade) = true := by decide +kernel
def cdC_ownersOfShade : List Row := [
  (0, 1, .iconst 0, 0, 0, 0, 0, 0, []),
  (1, 1, .istore_n 2, 0, 0, 0, 0, 0, []),
  (2, 1, .iconst 0, 0, 0, 0, 0, 0, []),
  (3, 1, .istore_n 3, 0, 0, 0, 0, 0, []),
  (4, 1, .iload_n 3, 0, 0, 0, 0, 0, []),
  (5, 1, .aload_n 0, 0, 0, 0, 0, 0, []),
  (6, 3, .getfield 10, 9, 0, 2, 0, 0, []),
  (9, 3, .getfield 112, 7, 2, 0, 15, 0, []),
  (12, 3, .if_icmp .ge 28, 40, 0, 0, 0, 0, []),
  (15, 1, .aload_n 0, 0, 0, 0, 0, 0, []),
  (16, 3, .invokevirtual 171, mC_upToDate, 0, 9, 25, 0, [(0, 3)]),
  (19, 1, .iload_n 3, 0, 0, 0, 0, 0, []),
  (20, 1, .iload_n 1, 0, 0, 0, 0, 0, []),
  (21, 1, .aload_n 0, 0, 0, 0, 0, 0, []),
  (22, 3, .getfield 10, 9, 0, 2, 0, 0, []),
  (25, 3, .invokevirtual 435, mF_ownsShade, 3, 2, 84, 0, [(0, 1)]),
  (28, 3, .ifCond .eq 6, 34, 0, 0, 0, 0, []),
  (31, 3, .iinc 2 1, 0, 0, 0, 0, 1, []),
  (34, 3, .iinc 3 1, 0, 0, 0, 0, 1, []),
  (37, 3, .goto (-33), 4, 0, 0, 0, 0, []),
  (40, 1, .iload_n 2, 0, 0, 0, 0, 0, []),
  (41, 1, .ireturn, 0, 0, 0, 0, 0, [])]
theorem ckC_ownersOfShade : cdC_ownersOfShade.all (rowOK mC_ownersOfShade) = true := by decide +kernel
def cdC_costOfShade : List Row := [
  (0, 1, .iconst 0, 0, 0, 0, 0, 0, []),
  (1, 1, .istore_n 2, 0, 0, 0, 0, 0, []),
  (2, 1, .iconst 0, 0, 0, 0, 0, 0, []),
  (3, 1, .istore_n 3, 0, 0, 0, 0, 0, []),
  (4, 1, .iload_n 3, 0, 0, 0, 0, 0, []),
  (5, 1, .aload_n 0, 0, 0, 0, 0, 0, []),
  (6, 3, .getfield 10, 9, 0, 2, 0, 0, []),
  (9, 3, .invokevirtual 432, mS_size, 0, 7, 83, 0, [(0, 1)]),
  (12, 3, .if_icmp .ge 34, 46, 0, 0, 0, 0, []),
  (15, 1, .aload_n 0, 0, 0, 0, 0, 0, []),
  (16, 3, .getfield 10, 9, 0, 2, 0, 0, []),
  (19, 3, .getfield 165, 7, 4, 2, 19, 0, []),
  (22, 1, .iload_n 3, 0, 0, 0, 0, 0, []),
  (23, 1, .iaload, 0, 0, 0, 0, 0, []),
  (24, 1, .iload_n 1, 0, 0, 0, 0, 0, []),
  (25, 3, .if_icmp .ne 15, 40, 0, 0, 0, 0, []),
  (28, 1, .iload_n 2, 0, 0, 0, 0, 0, []),
  (29, 1, .aload_n 0, 0, 0, 0, 0, 0, []),
  (30, 3, .invokevirtual 171, mC_upToDate, 0, 9, 25, 0, [(0, 3)]),
  (33, 3, .getfield 257, 2, 3, 2, 31, 0, []),
  (36, 1, .iload_n 3, 0, 0, 0, 0, 0, []),
  (37, 1, .iaload, 0, 0, 0, 0, 0, []),
  (38, 1, .iadd, 0, 0, 0, 0, 0, []),
  (39, 1, .istore_n 2, 0, 0, 0, 0, 0, []),
  (40, 3, .iinc 3 1, 0, 0, 0, 0, 1, []),
  (43, 3, .goto (-39), 4, 0, 0, 0, 0, []),
  (46, 1, .iload_n 2, 0, 0, 0, 0, 0, []),
  (47, 1, .ireturn, 0, 0, 0, 0, 0, [])]
theorem ckC_costOfShade : cdC_costOfShade.all (rowOK mC_costOfShade) = true := by decide +kernel
def cdC_divide : List Row := [
  (0, 1, .lload_n 2, 0, 0, 0, 0, 0, []),
  (1, 1, .lconst 0, 0, 0, 0, 0, 0, []),
  (2, 1, .lcmp, 0, 0, 0, 0, 0, []),
  (3, 3, .ifCond .le 9, 12, 0, 0, 0, 0, []),
  (6, 1, .lload_n 0, 0, 0, 0, 0, 0, []),
  (7, 1, .lload_n 2, 0, 0, 0, 0, 0, []),
  (8, 1, .ldiv, 0, 0, 0, 0, 0, []),
  (9, 3, .goto 4, 13, 0, 0, 0, 0, []),
  (12, 1, .lconst 0, 0, 0, 0, 0, 0, []),
  (13, 1, .lreturn, 0, 0, 0, 0, 0, [])]
theorem ckC_divide : cdC_divide.all (rowOK mC_divide) = true := by decide +kernel
def cdC_price : List Row := [
  (0, 1, .lload_n 3, 0, 0, 0, 0, 0, []),
  (1, 1, .lconst 0, 0, 0, 0, 0, 0, []),
  (2, 1, .lcmp, 0, 0, 0, 0, 0, []),
  (3, 3, .ifCond .le 17, 20, 0, 0, 0, 0, []),
  (6, 1, .iload_n 0, 0, 0, 0, 0, 0, []),
  (7, 1, .i2l, 0, 0, 0, 0, 0, []),
  (8, 3, .ldc2_w 280, 1000, 0, 0, 0, 0, []),
  (11, 1, .lmul, 0, 0, 0, 0, 0, []),
  (12, 1, .lload_n 1, 0, 0, 0, 0, 0, []),
  (13, 1, .lmul, 0, 0, 0, 0, 0, []),
  (14, 1, .lload_n 3, 0, 0, 0, 0, 0, []),
  (15, 1, .ldiv, 0, 0, 0, 0, 0, []),
  (16, 1, .l2i, 0, 0, 0, 0, 0, []),
  (17, 3, .goto 4, 21, 0, 0, 0, 0, []),
  (20, 1, .iconst 0, 0, 0, 0, 0, 0, []),
  (21, 1, .ireturn, 0, 0, 0, 0, 0, [])]
theorem ckC_price : cdC_price.all (rowOK mC_price) = true := by decide +kernel
end
section
/-! ===== code as rows ===== -/
def cdM_isIn : List Row := [
  (0, 1, .lload_n 0, 0, 0, 0, 0, 0, []),
  (1, 1, .lload_n 2, 0, 0, 0, 0, 0, []),
  (2, 1, .lcmp, 0, 0, 0, 0, 0, []),
  (3, 3, .ifCond .lt 14, 17, 0, 0, 0, 0, []),
  (6, 1, .lload_n 0, 0, 0, 0, 0, 0, []),
  (7, 2, .lload 4, 0, 0, 0, 0, 0, []),
  (9, 1, .lcmp, 0, 0, 0, 0, 0, []),
  (10, 3, .ifCond .gt 7, 17, 0, 0, 0, 0, []),
  (13, 1, .iconst 1, 0, 0, 0, 0, 1, []),
  (14, 3, .goto 4, 18, 0, 0, 0, 0, []),
  (17, 1, .iconst 0, 0, 0, 0, 0, 0, []),
  (18, 1, .ireturn, 0, 0, 1, 0, 0, [])]
theorem ckM_isIn : cdM_isIn.all (rowOK mM_isIn) = true := by decide +kernel
def cdM_truth : List Row := [
  (0, 1, .iload_n 0, 0, 0, 0, 0, 0, []),
  (1, 3, .ifCond .eq 7, 8, 0, 0, 0, 0, []),
  (4, 1, .iconst 1, 0, 0, 0, 0, 1, []),
  (5, 3, .goto 4, 9, 0, 0, 0, 0, []),
  (8, 1, .iconst 0, 0, 0, 0, 0, 0, []),
  (9, 1, .ireturn, 0, 0, 0, 0, 0, [])]
theorem ckM_truth : cdM_truth.all (rowOK mM_truth) = true := by decide +kernel
def cdM_greater : List Row := [
  (0, 1, .iload_n 0, 0, 0, 0, 0, 0, []),
  (1, 1, .iload_n 1, 0, 0, 0, 0, 0, []),
  (2, 3, .if_icmp .le 7, 9, 0, 0, 0, 0, []),
  (5, 1, .iload_n 0, 0, 0, 0, 0, 0, []),
  (6, 3, .goto 4, 10, 0, 0, 0, 0, []),
  (9, 1, .iload_n 1, 0, 0, 0, 0, 0, []),
  (10, 1, .ireturn, 0, 0, 0, 0, 0, [])]
theorem ckM_greater : cdM_greater.all (rowOK mM_greater) = true := by decide +kernel
def cdM_size : List Row := [
  (0, 1, .iload_n 0, 0, 0, 0, 0, 0, []),
  (1, 3, .ifCond .ge 8, 9, 0, 0, 0, 0, []),
  (4, 1, .iload_n 0, 0, 0, 0, 0, 0, []),
  (5, 1, .ineg, 0, 0, 0, 0, 0, []),
  (6, 3, .goto 4, 10, 0, 0, 0, 0, []),
  (9, 1, .iload_n 0, 0, 0, 0, 0, 0, []),
  (10, 1, .ireturn, 0, 0, 0, 0, 0, [])]
theorem ckM_size : cdM_size.all (rowOK mM_size) = true := by decide +kernel
def cdM_feed : List Row := [
  (0, 1, .aload_n 0, 0, 0, 0, 0, 0, []),
  (1, 3, .getfield 87, 10, 2, 0, 147, 0, []),
  (4, 2, .bipush 20, 0, 0, 0, 0, 20, []),
  (6, 1, .iadd, 0, 0, 0, 0, 0, []),
  (7, 3, .sipush 900, 0, 0, 0, 0, 900, []),
  (10, 3, .if_icmp .le 5, 15, 0, 0, 0, 0, []),
  (13, 1, .iconst (-1), 0, 0, 0, 0, (-1), []),
  (14, 1, .ireturn, 0, 0, 0, 0, 0, []),
  (15, 1, .aload_n 0, 0, 0, 0, 0, 0, []),
  (16, 1, .iload_n 1, 0, 0, 0, 0, 0, []),
  (17, 3, .invokevirtual 90, mM_four, 1, 10, 165, 0, [(0, 0)]),
  (20, 1, .aload_n 0, 0, 0, 0, 0, 0, []),
  (21, 1, .iload_n 2, 0, 0, 0, 0, 0, []),
  (22, 3, .invokevirtual 90, mM_four, 1, 10, 165, 0, [(0, 0)]),
  (25, 1, .aload_n 0, 0, 0, 0, 0, 0, []),
  (26, 1, .iload_n 3, 0, 0, 0, 0, 0, []),
  (27, 3, .invokevirtual 90, mM_four, 1, 10, 165, 0, [(0, 0)]),
  (30, 1, .aload_n 0, 0, 0, 0, 0, 0, []),
  (31, 2, .iload 4, 0, 0, 0, 0, 0, []),
  (33, 3, .invokevirtual 90, mM_four, 1, 10, 165, 0, [(0, 0)]),
  (36, 1, .aload_n 0, 0, 0, 0, 0, 0, []),
  (37, 2, .iload 5, 0, 0, 0, 0, 0, []),
  (39, 3, .invokevirtual 90, mM_four, 1, 10, 165, 0, [(0, 0)]),
  (42, 1, .aload_n 0, 0, 0, 0, 0, 0, []),
  (43, 3, .getfield 87, 10, 2, 0, 147, 0, []),
  (46, 1, .ireturn, 0, 0, 0, 0, 0, [])]
theorem ckM_feed : cdM_feed.all (rowOK mM_feed) = true := by decide +kernel
def cdM_four : List Row := [
  (0, 2, .bipush 24, 0, 0, 0, 0, 24, []),
  (2, 1, .istore_n 2, 0, 0, 0, 0, 0, []),
  (3, 1, .iload_n 2, 0, 0, 0, 0, 0, []),
  (4, 3, .ifCond .lt 35, 39, 0, 0, 0, 0, []),
  (7, 1, .aload_n 0, 0, 0, 0, 0, 0, []),
  (8, 3, .getfield 13, 10, 1, 2, 123, 0, []),
  (11, 1, .aload_n 0, 0, 0, 0, 0, 0, []),
  (12, 3, .getfield 87, 10, 2, 0, 147, 0, []),
  (15, 1, .iload_n 1, 0, 0, 0, 0, 0, []),
  (16, 1, .iload_n 2, 0, 0, 0, 0, 0, []),
  (17, 1, .ishr, 0, 0, 0, 0, 0, []),
  (18, 3, .sipush 255, 0, 0, 0, 0, 255, []),
  (21, 1, .iand, 0, 0, 0, 0, 0, []),
  (22, 1, .iastore, 0, 0, 0, 0, 0, []),
  (23, 1, .aload_n 0, 0, 0, 0, 0, 0, []),
  (24, 1, .dup, 0, 0, 0, 0, 0, []),
  (25, 3, .getfield 87, 10, 2, 0, 147, 0, []),
  (28, 1, .iconst 1, 0, 0, 0, 0, 1, []),
  (29, 1, .iadd, 0, 0, 0, 0, 0, []),
  (30, 3, .putfield 87, 10, 2, 0, 147, 0, []),
  (33, 3, .iinc 2 (-8), 0, 0, 0, 0, (-8), []),
  (36, 3, .goto (-33), 3, 0, 0, 0, 0, []),
  (39, 1, .return_, 0, 0, 0, 0, 0, [])]
theorem ckM_four : cdM_four.all (rowOK mM_four) = true := by decide +kernel
def cdM_end : List Row := [
  (0, 1, .iload_n 1, 0, 0, 0, 0, 0, []),
  (1, 1, .i2l, 0, 0, 0, 0, 0, []),
  (2, 1, .lconst 0, 0, 0, 0, 0, 0, []),
  (3, 1, .aload_n 0, 0, 0, 0, 0, 0, []),
  (4, 3, .getfield 87, 10, 2, 0, 147, 0, []),
  (7, 1, .i2l, 0, 0, 0, 0, 0, []),
  (8, 3, .invokestatic 94, mM_isIn, 3, 0, 166, 0, [(0, 1)]),
  (11, 3, .ifCond .ne 5, 16, 0, 0, 0, 0, []),
  (14, 1, .iconst (-1), 0, 0, 0, 0, (-1), []),
  (15, 1, .ireturn, 0, 0, 0, 0, 0, []),
  (16, 1, .aload_n 0, 0, 0, 0, 0, 0, []),
  (17, 1, .iload_n 1, 0, 0, 0, 0, 0, []),
  (18, 3, .putfield 87, 10, 2, 0, 147, 0, []),
  (21, 1, .iload_n 1, 0, 0, 0, 0, 0, []),
  (22, 1, .ireturn, 0, 0, 0, 0, 0, [])]
theorem ckM_end : cdM_end.all (rowOK mM_end) = true := by decide +kernel
def cdM_here : List Row := [
  (0, 1, .aload_n 0, 0, 0, 0, 0, 0, []),
  (1, 3, .getfield 98, 10, 4, 0, 148, 0, []),
  (4, 1, .iload_n 1, 0, 0, 0, 0, 0, []),
  (5, 1, .iadd, 0, 0, 0, 0, 0, []),
  (6, 1, .aload_n 0, 0, 0, 0, 0, 0, []),
  (7, 3, .getfield 101, 10, 3, 0, 149, 0, []),
  (10, 3, .if_icmp .ge 17, 27, 0, 0, 0, 0, []),
  (13, 1, .aload_n 0, 0, 0, 0, 0, 0, []),
  (14, 3, .getfield 13, 10, 1, 2, 123, 0, []),
  (17, 1, .aload_n 0, 0, 0, 0, 0, 0, []),
  (18, 3, .getfield 98, 10, 4, 0, 148, 0, []),
  (21, 1, .iload_n 1, 0, 0, 0, 0, 0, []),
  (22, 1, .iadd, 0, 0, 0, 0, 0, []),
  (23, 1, .iaload, 0, 0, 0, 0, 0, []),
  (24, 3, .goto 4, 28, 0, 0, 0, 0, []),
  (27, 1, .iconst (-1), 0, 0, 0, 0, (-1), []),
  (28, 1, .ireturn, 0, 0, 0, 0, 0, [])]
theorem ckM_here : cdM_here.all (rowOK mM_here) = true := by decide +kernel
def cdM_isLetter : List Row := [
  (0, 1, .iload_n 0, 0, 0, 0, 0, 0, []),
  (1, 2, .bipush 97, 0, 0, 0, 0, 97, []),
  (3, 3, .if_icmp .lt 13, 16, 0, 0, 0, 0, []),
  (6, 1, .iload_n 0, 0, 0, 0, 0, 0, []),
  (7, 2, .bipush 122, 0, 0, 0, 0, 122, []),
  (9, 3, .if_icmp .gt 7, 16, 0, 0, 0, 0, []),
  (12, 1, .iconst 1, 0, 0, 0, 0, 1, []),
  (13, 3, .goto 4, 17, 0, 0, 0, 0, []),
  (16, 1, .iconst 0, 0, 0, 0, 0, 0, []),
  (17, 1, .ireturn, 0, 0, 1, 0, 0, [])]
theorem ckM_isLetter : cdM_isLetter.all (rowOK mM_isLetter) = true := by decide +kernel
def cdM_isDigit : List Row := [
  (0, 1, .iload_n 0, 0, 0, 0, 0, 0, []),
  (1, 2, .bipush 48, 0, 0, 0, 0, 48, []),
  (3, 3, .if_icmp .lt 13, 16, 0, 0, 0, 0, []),
  (6, 1, .iload_n 0, 0, 0, 0, 0, 0, []),
  (7, 2, .bipush 57, 0, 0, 0, 0, 57, []),
  (9, 3, .if_icmp .gt 7, 16, 0, 0, 0, 0, []),
  (12, 1, .iconst 1, 0, 0, 0, 0, 1, []),
  (13, 3, .goto 4, 17, 0, 0, 0, 0, []),
  (16, 1, .iconst 0, 0, 0, 0, 0, 0, []),
  (17, 1, .ireturn, 0, 0, 1, 0, 0, [])]
theorem ckM_isDigit : cdM_isDigit.all (rowOK mM_isDigit) = true := by decide +kernel
def cdM_goOn : List Row := [
  (0, 1, .aload_n 0, 0, 0, 0, 0, 0, []),
  (1, 1, .iconst 0, 0, 0, 0, 0, 0, []),
  (2, 3, .invokevirtual 104, mM_here, 1, 10, 167, 0, [(0, 1)]),
  (5, 2, .bipush 32, 0, 0, 0, 0, 32, []),
  (7, 3, .if_icmp .eq 13, 20, 0, 0, 0, 0, []),
  (10, 1, .aload_n 0, 0, 0, 0, 0, 0, []),
  (11, 1, .iconst 0, 0, 0, 0, 0, 0, []),
  (12, 3, .invokevirtual 104, mM_here, 1, 10, 167, 0, [(0, 1)]),
  (15, 2, .bipush 10, 0, 0, 0, 0, 10, []),
  (17, 3, .if_icmp .ne 16, 33, 0, 0, 0, 0, []),
  (20, 1, .aload_n 0, 0, 0, 0, 0, 0, []),
  (21, 1, .dup, 0, 0, 0, 0, 0, []),
  (22, 3, .getfield 98, 10, 4, 0, 148, 0, []),
  (25, 1, .iconst 1, 0, 0, 0, 0, 1, []),
  (26, 1, .iadd, 0, 0, 0, 0, 0, []),
  (27, 3, .putfield 98, 10, 4, 0, 148, 0, []),
  (30, 3, .goto (-30), 0, 0, 0, 0, 0, []),
  (33, 1, .aload_n 0, 0, 0, 0, 0, 0, []),
  (34, 1, .aload_n 0, 0, 0, 0, 0, 0, []),
  (35, 3, .getfield 98, 10, 4, 0, 148, 0, []),
  (38, 3, .putfield 108, 10, 5, 0, 150, 0, []),
  (41, 1, .aload_n 0, 0, 0, 0, 0, 0, []),
  (42, 1, .iconst 0, 0, 0, 0, 0, 0, []),
  (43, 3, .putfield 111, 10, 7, 0, 151, 0, []),
  (46, 1, .aload_n 0, 0, 0, 0, 0, 0, []),
  (47, 1, .lconst 0, 0, 0, 0, 0, 0, []),
  (48, 3, .putfield 114, 10, 13, 1, 152, 0, []),
  (51, 1, .aload_n 0, 0, 0, 0, 0, 0, []),
  (52, 1, .iconst 0, 0, 0, 0, 0, 0, []),
  (53, 3, .putfield 118, 10, 8, 0, 153, 0, []),
  (56, 1, .aload_n 0, 0, 0, 0, 0, 0, []),
  (57, 1, .iconst 0, 0, 0, 0, 0, 0, []),
  (58, 3, .invokevirtual 104, mM_here, 1, 10, 167, 0, [(0, 1)]),
  (61, 3, .ifCond .ge 9, 70, 0, 0, 0, 0, []),
  (64, 1, .aload_n 0, 0, 0, 0, 0, 0, []),
  (65, 1, .iconst 0, 0, 0, 0, 0, 0, []),
  (66, 3, .putfield 121, 10, 6, 0, 154, 0, []),
  (69, 1, .return_, 0, 0, 0, 0, 0, []),
  (70, 1, .aload_n 0, 0, 0, 0, 0, 0, []),
  (71, 1, .iconst 0, 0, 0, 0, 0, 0, []),
  (72, 3, .invokevirtual 104, mM_here, 1, 10, 167, 0, [(0, 1)]),
  (75, 3, .invokestatic 124, mM_isLetter, 1, 0, 168, 0, [(0, 1)]),
  (78, 3, .ifCond .eq 81, 159, 0, 0, 0, 0, []),
  (81, 1, .aload_n 0, 0, 0, 0, 0, 0, []),
  (82, 1, .aload_n 0, 0, 0, 0, 0, 0, []),
  (83, 3, .getfield 111, 10, 7, 0, 151, 0, []),
  (86, 3, .invokevirtual 104, mM_here, 1, 10, 167, 0, [(0, 1)]),
  (89, 3, .invokestatic 124, mM_isLetter, 1, 0, 168, 0, [(0, 1)]),
  (92, 3, .ifCond .eq 46, 138, 0, 0, 0, 0, []),
  (95, 1, .aload_n 0, 0, 0, 0, 0, 0, []),
  (96, 3, .getfield 111, 10, 7, 0, 151, 0, []),
  (99, 2, .bipush 8, 0, 0, 0, 0, 8, []),
  (101, 3, .if_icmp .ge 24, 125, 0, 0, 0, 0, []),
  (104, 1, .aload_n 0, 0, 0, 0, 0, 0, []),
  (105, 1, .aload_n 0, 0, 0, 0, 0, 0, []),
  (106, 3, .getfield 114, 10, 13, 1, 152, 0, []),
  (109, 2, .bipush 8, 0, 0, 0, 0, 8, []),
  (111, 1, .lshl, 0, 0, 0, 0, 0, []),
  (112, 1, .aload_n 0, 0, 0, 0, 0, 0, []),
  (113, 1, .aload_n 0, 0, 0, 0, 0, 0, []),
  (114, 3, .getfield 111, 10, 7, 0, 151, 0, []),
  (117, 3, .invokevirtual 104, mM_here, 1, 10, 167, 0, [(0, 1)]),
  (120, 1, .i2l, 0, 0, 0, 0, 0, []),
  (121, 1, .lor, 0, 0, 0, 0, 0, []),
  (122, 3, .putfield 114, 10, 13, 1, 152, 0, []),
  (125, 1, .aload_n 0, 0, 0, 0, 0, 0, []),
  (126, 1, .dup, 0, 0, 0, 0, 0, []),
  (127, 3, .getfield 111, 10, 7, 0, 151, 0, []),
  (130, 1, .iconst 1, 0, 0, 0, 0, 1, []),
  (131, 1, .iadd, 0, 0, 0, 0, 0, []),
  (132, 3, .putfield 111, 10, 7, 0, 151, 0, []),
  (135, 3, .goto (-54), 81, 0, 0, 0, 0, []),
  (138, 1, .aload_n 0, 0, 0, 0, 0, 0, []),
  (139, 1, .aload_n 0, 0, 0, 0, 0, 0, []),
  (140, 3, .getfield 111, 10, 7, 0, 151, 0, []),
  (143, 2, .bipush 8, 0, 0, 0, 0, 8, []),
  (145, 3, .if_icmp .le 7, 152, 0, 0, 0, 0, []),
  (148, 1, .iconst 4, 0, 0, 0, 0, 4, []),
  (149, 3, .goto 4, 153, 0, 0, 0, 0, []),
  (152, 1, .iconst 1, 0, 0, 0, 0, 1, []),
  (153, 3, .putfield 121, 10, 6, 0, 154, 0, []),
  (156, 3, .goto 131, 287, 0, 0, 0, 0, []),
  (159, 1, .aload_n 0, 0, 0, 0, 0, 0, []),
  (160, 1, .iconst 0, 0, 0, 0, 0, 0, []),
  (161, 3, .invokevirtual 104, mM_here, 1, 10, 167, 0, [(0, 1)]),
  (164, 3, .invokestatic 128, mM_isDigit, 1, 0, 169, 0, [(0, 1)]),
  (167, 3, .ifCond .eq 96, 263, 0, 0, 0, 0, []),
  (170, 1, .aload_n 0, 0, 0, 0, 0, 0, []),
  (171, 1, .aload_n 0, 0, 0, 0, 0, 0, []),
  (172, 3, .getfield 111, 10, 7, 0, 151, 0, []),
  (175, 3, .invokevirtual 104, mM_here, 1, 10, 167, 0, [(0, 1)]),
  (178, 3, .invokestatic 128, mM_isDigit, 1, 0, 169, 0, [(0, 1)]),
  (181, 3, .ifCond .eq 47, 228, 0, 0, 0, 0, []),
  (184, 1, .aload_n 0, 0, 0, 0, 0, 0, []),
  (185, 3, .getfield 111, 10, 7, 0, 151, 0, []),
  (188, 1, .iconst 4, 0, 0, 0, 0, 4, []),
  (189, 3, .if_icmp .ge 26, 215, 0, 0, 0, 0, []),
  (192, 1, .aload_n 0, 0, 0, 0, 0, 0, []),
  (193, 2, .bipush 10, 0, 0, 0, 0, 10, []),
  (195, 1, .aload_n 0, 0, 0, 0, 0, 0, []),
  (196, 3, .getfield 118, 10, 8, 0, 153, 0, []),
  (199, 1, .imul, 0, 0, 0, 0, 0, []),
  (200, 1, .aload_n 0, 0, 0, 0, 0, 0, []),
  (201, 1, .aload_n 0, 0, 0, 0, 0, 0, []),
  (202, 3, .getfield 111, 10, 7, 0, 151, 0, []),
  (205, 3, .invokevirtual 104, mM_here, 1, 10, 167, 0, [(0, 1)]),
  (208, 1, .iadd, 0, 0, 0, 0, 0, []),
  (209, 2, .bipush 48, 0, 0, 0, 0, 48, []),
  (211, 1, .isub, 0, 0, 0, 0, 0, []),
  (212, 3, .putfield 118, 10, 8, 0, 153, 0, []),
  (215, 1, .aload_n 0, 0, 0, 0, 0, 0, []),
  (216, 1, .dup, 0, 0, 0, 0, 0, []),
  (217, 3, .getfield 111, 10, 7, 0, 151, 0, []),
  (220, 1, .iconst 1, 0, 0, 0, 0, 1, []),
  (221, 1, .iadd, 0, 0, 0, 0, 0, []),
  (222, 3, .putfield 111, 10, 7, 0, 151, 0, []),
  (225, 3, .goto (-55), 170, 0, 0, 0, 0, []),
  (228, 1, .aload_n 0, 0, 0, 0, 0, 0, []),
  (229, 1, .aload_n 0, 0, 0, 0, 0, 0, []),
  (230, 3, .getfield 111, 10, 7, 0, 151, 0, []),
  (233, 2, .bipush 20, 0, 0, 0, 0, 20, []),
  (235, 3, .if_icmp .gt 17, 252, 0, 0, 0, 0, []),
  (238, 1, .aload_n 0, 0, 0, 0, 0, 0, []),
  (239, 1, .aload_n 0, 0, 0, 0, 0, 0, []),
  (240, 3, .getfield 111, 10, 7, 0, 151, 0, []),
  (243, 3, .invokevirtual 104, mM_here, 1, 10, 167, 0, [(0, 1)]),
  (246, 3, .invokestatic 124, mM_isLetter, 1, 0, 168, 0, [(0, 1)]),
  (249, 3, .ifCond .eq 7, 256, 0, 0, 0, 0, []),
  (252, 1, .iconst 4, 0, 0, 0, 0, 4, []),
  (253, 3, .goto 4, 257, 0, 0, 0, 0, []),
  (256, 1, .iconst 2, 0, 0, 0, 0, 2, []),
  (257, 3, .putfield 121, 10, 6, 0, 154, 0, []),
  (260, 3, .goto 27, 287, 0, 0, 0, 0, []),
  (263, 1, .aload_n 0, 0, 0, 0, 0, 0, []),
  (264, 1, .aload_n 0, 0, 0, 0, 0, 0, []),
  (265, 1, .iconst 0, 0, 0, 0, 0, 0, []),
  (266, 3, .invokevirtual 104, mM_here, 1, 10, 167, 0, [(0, 1)]),
  (269, 2, .bipush 59, 0, 0, 0, 0, 59, []),
  (271, 3, .if_icmp .ne 7, 278, 0, 0, 0, 0, []),
  (274, 1, .iconst 3, 0, 0, 0, 0, 3, []),
  (275, 3, .goto 4, 279, 0, 0, 0, 0, []),
  (278, 1, .iconst 4, 0, 0, 0, 0, 4, []),
  (279, 3, .putfield 121, 10, 6, 0, 154, 0, []),
  (282, 1, .aload_n 0, 0, 0, 0, 0, 0, []),
  (283, 1, .iconst 1, 0, 0, 0, 0, 1, []),
  (284, 3, .putfield 111, 10, 7, 0, 151, 0, []),
  (287, 1, .aload_n 0, 0, 0, 0, 0, 0, []),
  (288, 1, .dup, 0, 0, 0, 0, 0, []),
  (289, 3, .getfield 98, 10, 4, 0, 148, 0, []),
  (292, 1, .aload_n 0, 0, 0, 0, 0, 0, []),
  (293, 3, .getfield 111, 10, 7, 0, 151, 0, []),
  (296, 1, .iadd, 0, 0, 0, 0, 0, []),
  (297, 3, .putfield 98, 10, 4, 0, 148, 0, []),
  (300, 1, .return_, 0, 0, 0, 0, 0, [])]
theorem ckM_goOn_0 : ((cdM_goOn.drop 0).take 60).all (rowOK mM_goOn) = true := by decide +kernel
theorem ckM_goOn_60 : ((cdM_goOn.drop 60).take 60).all (rowOK mM_goOn) = true := by decide +kernel
theorem ckM_goOn_120 : ((cdM_goOn.drop 120).take 60).all (rowOK mM_goOn) = true := by decide +kernel
theorem ckM_goOn : cdM_goOn.all (rowOK mM_goOn) = true := by
  have h : (cdM_goOn.drop 0).all (rowOK mM_goOn) = true := (all_cut 60 ckM_goOn_0 (by rw [List.drop_drop]; exact (all_cut 60 ckM_goOn_60 (by rw [List.drop_drop]; exact (all_cut 60 ckM_goOn_120 (by rw [List.drop_drop]; exact (by rw [show cdM_goOn.drop 180 = [] from rfl]; rfl)))))))
  exact h
def cdM_wrong : List Row := [
  (0, 1, .aload_n 0, 0, 0, 0, 0, 0, []),
  (1, 3, .getfield 131, 10, 9, 0, 155, 0, []),
  (4, 3, .ifCond .le 4, 8, 0, 0, 0, 0, []),
  (7, 1, .return_, 0, 0, 0, 0, 0, []),
  (8, 1, .aload_n 0, 0, 0, 0, 0, 0, []),
  (9, 1, .aload_n 0, 0, 0, 0, 0, 0, []),
  (10, 3, .getfield 121, 10, 6, 0, 154, 0, []),
  (13, 1, .iconst 4, 0, 0, 0, 0, 4, []),
  (14, 3, .if_icmp .ne 7, 21, 0, 0, 0, 0, []),
  (17, 1, .iconst 1, 0, 0, 0, 0, 1, []),
  (18, 3, .goto 4, 22, 0, 0, 0, 0, []),
  (21, 1, .iload_n 1, 0, 0, 0, 0, 0, []),
  (22, 3, .putfield 131, 10, 9, 0, 155, 0, []),
  (25, 1, .aload_n 0, 0, 0, 0, 0, 0, []),
  (26, 1, .aload_n 0, 0, 0, 0, 0, 0, []),
  (27, 3, .getfield 108, 10, 5, 0, 150, 0, []),
  (30, 3, .putfield 16, 10, 10, 0, 124, 0, []),
  (33, 1, .return_, 0, 0, 0, 0, 0, [])]
theorem ckM_wrong : cdM_wrong.all (rowOK mM_wrong) = true := by decide +kernel
def cdM_isGood : List Row := [
  (0, 1, .aload_n 0, 0, 0, 0, 0, 0, []),
  (1, 3, .getfield 131, 10, 9, 0, 155, 0, []),
  (4, 3, .ifCond .ne 7, 11, 0, 0, 0, 0, []),
  (7, 1, .iconst 1, 0, 0, 0, 0, 1, []),
  (8, 3, .goto 4, 12, 0, 0, 0, 0, []),
  (11, 1, .iconst 0, 0, 0, 0, 0, 0, []),
  (12, 1, .ireturn, 0, 0, 1, 0, 0, [])]
theorem ckM_isGood : cdM_isGood.all (rowOK mM_isGood) = true := by decide +kernel
def cdM_isWord : List Row := [
  (0, 1, .aload_n 0, 0, 0, 0, 0, 0, []),
  (1, 3, .getfield 131, 10, 9, 0, 155, 0, []),
  (4, 3, .ifCond .ne 24, 28, 0, 0, 0, 0, []),
  (7, 1, .aload_n 0, 0, 0, 0, 0, 0, []),
  (8, 3, .getfield 121, 10, 6, 0, 154, 0, []),
  (11, 1, .iconst 1, 0, 0, 0, 0, 1, []),
  (12, 3, .if_icmp .ne 16, 28, 0, 0, 0, 0, []),
  (15, 1, .aload_n 0, 0, 0, 0, 0, 0, []),
  (16, 3, .getfield 114, 10, 13, 1, 152, 0, []),
  (19, 1, .lload_n 1, 0, 0, 0, 0, 0, []),
  (20, 1, .lcmp, 0, 0, 0, 0, 0, []),
  (21, 3, .ifCond .ne 7, 28, 0, 0, 0, 0, []),
  (24, 1, .iconst 1, 0, 0, 0, 0, 1, []),
  (25, 3, .goto 4, 29, 0, 0, 0, 0, []),
  (28, 1, .iconst 0, 0, 0, 0, 0, 0, []),
  (29, 1, .ireturn, 0, 0, 1, 0, 0, [])]
theorem ckM_isWord : cdM_isWord.all (rowOK mM_isWord) = true := by decide +kernel
def cdM_number : List Row := [
  (0, 1, .aload_n 0, 0, 0, 0, 0, 0, []),
  (1, 3, .getfield 131, 10, 9, 0, 155, 0, []),
  (4, 3, .ifCond .le 5, 9, 0, 0, 0, 0, []),
  (7, 1, .iconst 0, 0, 0, 0, 0, 0, []),
  (8, 1, .ireturn, 0, 0, 0, 0, 0, []),
  (9, 1, .aload_n 0, 0, 0, 0, 0, 0, []),
  (10, 3, .getfield 121, 10, 6, 0, 154, 0, []),
  (13, 1, .iconst 2, 0, 0, 0, 0, 2, []),
  (14, 3, .if_icmp .eq 11, 25, 0, 0, 0, 0, []),
  (17, 1, .aload_n 0, 0, 0, 0, 0, 0, []),
  (18, 1, .iconst 2, 0, 0, 0, 0, 2, []),
  (19, 3, .invokevirtual 134, mM_wrong, 1, 10, 170, 0, [(0, 0)]),
  (22, 3, .goto 31, 53, 0, 0, 0, 0, []),
  (25, 1, .aload_n 0, 0, 0, 0, 0, 0, []),
  (26, 3, .getfield 111, 10, 7, 0, 151, 0, []),
  (29, 1, .iconst 4, 0, 0, 0, 0, 4, []),
  (30, 3, .if_icmp .gt 18, 48, 0, 0, 0, 0, []),
  (33, 1, .aload_n 0, 0, 0, 0, 0, 0, []),
  (34, 3, .getfield 118, 10, 8, 0, 153, 0, []),
  (37, 1, .i2l, 0, 0, 0, 0, 0, []),
  (38, 1, .iload_n 1, 0, 0, 0, 0, 0, []),
  (39, 1, .i2l, 0, 0, 0, 0, 0, []),
  (40, 1, .iload_n 2, 0, 0, 0, 0, 0, []),
  (41, 1, .i2l, 0, 0, 0, 0, 0, []),
  (42, 3, .invokestatic 94, mM_isIn, 3, 0, 166, 0, [(0, 1)]),
  (45, 3, .ifCond .ne 8, 53, 0, 0, 0, 0, []),
  (48, 1, .aload_n 0, 0, 0, 0, 0, 0, []),
  (49, 1, .iconst 4, 0, 0, 0, 0, 4, []),
  (50, 3, .invokevirtual 134, mM_wrong, 1, 10, 170, 0, [(0, 0)]),
  (53, 1, .aload_n 0, 0, 0, 0, 0, 0, []),
  (54, 3, .getfield 118, 10, 8, 0, 153, 0, []),
  (57, 1, .istore_n 3, 0, 0, 0, 0, 0, []),
  (58, 1, .aload_n 0, 0, 0, 0, 0, 0, []),
  (59, 3, .invokevirtual 137, mM_isGood, 0, 10, 171, 0, [(0, 1)]),
  (62, 3, .ifCond .eq 7, 69, 0, 0, 0, 0, []),
  (65, 1, .aload_n 0, 0, 0, 0, 0, 0, []),
  (66, 3, .invokevirtual 141, mM_goOn, 0, 10, 172, 0, [(0, 0)]),
  (69, 1, .iload_n 3, 0, 0, 0, 0, 0, []),
  (70, 1, .ireturn, 0, 0, 0, 0, 0, [])]
theorem ckM_number : cdM_number.all (rowOK mM_number) = true := by decide +kernel
def cdM_ends : List Row := [
  (0, 1, .aload_n 0, 0, 0, 0, 0, 0, []),
  (1, 3, .invokevirtual 137, mM_isGood, 0, 10, 171, 0, [(0, 1)]),
  (4, 3, .ifCond .eq 16, 20, 0, 0, 0, 0, []),
  (7, 1, .aload_n 0, 0, 0, 0, 0, 0, []),
  (8, 3, .getfield 121, 10, 6, 0, 154, 0, []),
  (11, 1, .iconst 3, 0, 0, 0, 0, 3, []),
  (12, 3, .if_icmp .eq 8, 20, 0, 0, 0, 0, []),
  (15, 1, .aload_n 0, 0, 0, 0, 0, 0, []),
  (16, 1, .iconst 2, 0, 0, 0, 0, 2, []),
  (17, 3, .invokevirtual 134, mM_wrong, 1, 10, 170, 0, [(0, 0)]),
  (20, 1, .aload_n 0, 0, 0, 0, 0, 0, []),
  (21, 3, .invokevirtual 137, mM_isGood, 0, 10, 171, 0, [(0, 1)]),
  (24, 3, .ifCond .eq 7, 31, 0, 0, 0, 0, []),
  (27, 1, .aload_n 0, 0, 0, 0, 0, 0, []),
  (28, 3, .invokevirtual 141, mM_goOn, 0, 10, 172, 0, [(0, 0)]),
  (31, 1, .return_, 0, 0, 0, 0, 0, [])]
theorem ckM_ends : cdM_ends.all (rowOK mM_ends) = true := by decide +kernel
def cdM_rowLine : List Row := [
  (0, 1, .aload_n 0, 0, 0, 0, 0, 0, []),
  (1, 3, .getfield 144, 10, 15, 0, 156, 0, []),
  (4, 1, .aload_n 0, 0, 0, 0, 0, 0, []),
  (5, 3, .getfield 23, 10, 14, 2, 126, 0, []),
  (8, 1, .iconst 1, 0, 0, 0, 0, 1, []),
  (9, 1, .iaload, 0, 0, 0, 0, 0, []),
  (10, 3, .if_icmp .ne 8, 18, 0, 0, 0, 0, []),
  (13, 1, .aload_n 0, 0, 0, 0, 0, 0, []),
  (14, 1, .iconst 3, 0, 0, 0, 0, 3, []),
  (15, 3, .invokevirtual 134, mM_wrong, 1, 10, 170, 0, [(0, 0)]),
  (18, 1, .aload_n 0, 0, 0, 0, 0, 0, []),
  (19, 3, .invokevirtual 137, mM_isGood, 0, 10, 171, 0, [(0, 1)]),
  (22, 3, .ifCond .eq 7, 29, 0, 0, 0, 0, []),
  (25, 1, .aload_n 0, 0, 0, 0, 0, 0, []),
  (26, 3, .invokevirtual 141, mM_goOn, 0, 10, 172, 0, [(0, 0)]),
  (29, 1, .aload_n 0, 0, 0, 0, 0, 0, []),
  (30, 3, .invokevirtual 137, mM_isGood, 0, 10, 171, 0, [(0, 1)]),
  (33, 3, .ifCond .eq 16, 49, 0, 0, 0, 0, []),
  (36, 1, .aload_n 0, 0, 0, 0, 0, 0, []),
  (37, 3, .getfield 121, 10, 6, 0, 154, 0, []),
  (40, 1, .iconst 2, 0, 0, 0, 0, 2, []),
  (41, 3, .if_icmp .eq 8, 49, 0, 0, 0, 0, []),
  (44, 1, .aload_n 0, 0, 0, 0, 0, 0, []),
  (45, 1, .iconst 2, 0, 0, 0, 0, 2, []),
  (46, 3, .invokevirtual 134, mM_wrong, 1, 10, 170, 0, [(0, 0)]),
  (49, 1, .aload_n 0, 0, 0, 0, 0, 0, []),
  (50, 3, .invokevirtual 137, mM_isGood, 0, 10, 171, 0, [(0, 1)]),
  (53, 3, .ifCond .eq 21, 74, 0, 0, 0, 0, []),
  (56, 1, .aload_n 0, 0, 0, 0, 0, 0, []),
  (57, 3, .getfield 111, 10, 7, 0, 151, 0, []),
  (60, 1, .aload_n 0, 0, 0, 0, 0, 0, []),
  (61, 3, .getfield 23, 10, 14, 2, 126, 0, []),
  (64, 1, .iconst 0, 0, 0, 0, 0, 0, []),
  (65, 1, .iaload, 0, 0, 0, 0, 0, []),
  (66, 3, .if_icmp .le 8, 74, 0, 0, 0, 0, []),
  (69, 1, .aload_n 0, 0, 0, 0, 0, 0, []),
  (70, 1, .iconst 4, 0, 0, 0, 0, 4, []),
  (71, 3, .invokevirtual 134, mM_wrong, 1, 10, 170, 0, [(0, 0)]),
  (74, 1, .aload_n 0, 0, 0, 0, 0, 0, []),
  (75, 3, .getfield 131, 10, 9, 0, 155, 0, []),
  (78, 3, .ifCond .le 4, 82, 0, 0, 0, 0, []),
  (81, 1, .return_, 0, 0, 0, 0, 0, []),
  (82, 1, .iconst 0, 0, 0, 0, 0, 0, []),
  (83, 1, .istore_n 1, 0, 0, 0, 0, 0, []),
  (84, 1, .iload_n 1, 0, 0, 0, 0, 0, []),
  (85, 1, .aload_n 0, 0, 0, 0, 0, 0, []),
  (86, 3, .getfield 111, 10, 7, 0, 151, 0, []),
  (89, 3, .if_icmp .ge 43, 132, 0, 0, 0, 0, []),
  (92, 1, .aload_n 0, 0, 0, 0, 0, 0, []),
  (93, 3, .getfield 23, 10, 14, 2, 126, 0, []),
  (96, 1, .iconst 4, 0, 0, 0, 0, 4, []),
  (97, 1, .aload_n 0, 0, 0, 0, 0, 0, []),
  (98, 3, .getfield 23, 10, 14, 2, 126, 0, []),
  (101, 1, .iconst 0, 0, 0, 0, 0, 0, []),
  (102, 1, .iaload, 0, 0, 0, 0, 0, []),
  (103, 1, .aload_n 0, 0, 0, 0, 0, 0, []),
  (104, 3, .getfield 144, 10, 15, 0, 156, 0, []),
  (107, 1, .imul, 0, 0, 0, 0, 0, []),
  (108, 1, .iadd, 0, 0, 0, 0, 0, []),
  (109, 1, .iload_n 1, 0, 0, 0, 0, 0, []),
  (110, 1, .iadd, 0, 0, 0, 0, 0, []),
  (111, 1, .aload_n 0, 0, 0, 0, 0, 0, []),
  (112, 3, .getfield 13, 10, 1, 2, 123, 0, []),
  (115, 1, .aload_n 0, 0, 0, 0, 0, 0, []),
  (116, 3, .getfield 108, 10, 5, 0, 150, 0, []),
  (119, 1, .iload_n 1, 0, 0, 0, 0, 0, []),
  (120, 1, .iadd, 0, 0, 0, 0, 0, []),
  (121, 1, .iaload, 0, 0, 0, 0, 0, []),
  (122, 2, .bipush 48, 0, 0, 0, 0, 48, []),
  (124, 1, .isub, 0, 0, 0, 0, 0, []),
  (125, 1, .iastore, 0, 0, 0, 0, 0, []),
  (126, 3, .iinc 1 1, 0, 0, 0, 0, 1, []),
  (129, 3, .goto (-45), 84, 0, 0, 0, 0, []),
  (132, 1, .aload_n 0, 0, 0, 0, 0, 0, []),
  (133, 1, .dup, 0, 0, 0, 0, 0, []),
  (134, 3, .getfield 144, 10, 15, 0, 156, 0, []),
  (137, 1, .iconst 1, 0, 0, 0, 0, 1, []),
  (138, 1, .iadd, 0, 0, 0, 0, 0, []),
  (139, 3, .putfield 144, 10, 15, 0, 156, 0, []),
  (142, 1, .aload_n 0, 0, 0, 0, 0, 0, []),
  (143, 3, .invokevirtual 141, mM_goOn, 0, 10, 172, 0, [(0, 0)]),
  (146, 1, .return_, 0, 0, 0, 0, 0, [])]
theorem ckM_rowLine_0 : ((cdM_rowLine.drop 0).take 60).all (rowOK mM_rowLine) = true := by decide +kernel
theorem ckM_rowLine_60 : ((cdM_rowLine.drop 60).take 60).all (rowOK mM_rowLine) = true := by decide +kernel
theorem ckM_rowLine : cdM_rowLine.all (rowOK mM_rowLine) = true := by
  have h : (cdM_rowLine.drop 0).all (rowOK mM_rowLine) = true := (all_cut 60 ckM_rowLine_0 (by rw [List.drop_drop]; exact (all_cut 60 ckM_rowLine_60 (by rw [List.drop_drop]; exact (by rw [show cdM_rowLine.drop 120 = [] from rfl]; rfl)))))
  exact h
def cdM_dotLine : List Row := [
  (0, 1, .aload_n 0, 0, 0, 0, 0, 0, []),
  (1, 3, .getfield 23, 10, 14, 2, 126, 0, []),
  (4, 1, .iconst 3, 0, 0, 0, 0, 3, []),
  (5, 1, .iaload, 0, 0, 0, 0, 0, []),
  (6, 1, .istore_n 1, 0, 0, 0, 0, 0, []),
  (7, 1, .iload_n 1, 0, 0, 0, 0, 0, []),
  (8, 2, .bipush 40, 0, 0, 0, 0, 40, []),
  (10, 3, .if_icmp .ne 8, 18, 0, 0, 0, 0, []),
  (13, 1, .aload_n 0, 0, 0, 0, 0, 0, []),
  (14, 1, .iconst 3, 0, 0, 0, 0, 3, []),
  (15, 3, .invokevirtual 134, mM_wrong, 1, 10, 170, 0, [(0, 0)]),
  (18, 1, .aload_n 0, 0, 0, 0, 0, 0, []),
  (19, 3, .invokevirtual 137, mM_isGood, 0, 10, 171, 0, [(0, 1)]),
  (22, 3, .ifCond .eq 7, 29, 0, 0, 0, 0, []),
  (25, 1, .aload_n 0, 0, 0, 0, 0, 0, []),
  (26, 3, .invokevirtual 141, mM_goOn, 0, 10, 172, 0, [(0, 0)]),
  (29, 1, .aload_n 0, 0, 0, 0, 0, 0, []),
  (30, 1, .iconst 0, 0, 0, 0, 0, 0, []),
  (31, 1, .aload_n 0, 0, 0, 0, 0, 0, []),
  (32, 3, .getfield 23, 10, 14, 2, 126, 0, []),
  (35, 1, .iconst 0, 0, 0, 0, 0, 0, []),
  (36, 1, .iaload, 0, 0, 0, 0, 0, []),
  (37, 1, .iconst 1, 0, 0, 0, 0, 1, []),
  (38, 1, .isub, 0, 0, 0, 0, 0, []),
  (39, 3, .invokevirtual 147, mM_number, 2, 10, 173, 0, [(0, 1)]),
  (42, 1, .istore_n 2, 0, 0, 0, 0, 0, []),
  (43, 1, .aload_n 0, 0, 0, 0, 0, 0, []),
  (44, 1, .iconst 0, 0, 0, 0, 0, 0, []),
  (45, 1, .aload_n 0, 0, 0, 0, 0, 0, []),
  (46, 3, .getfield 23, 10, 14, 2, 126, 0, []),
  (49, 1, .iconst 1, 0, 0, 0, 0, 1, []),
  (50, 1, .iaload, 0, 0, 0, 0, 0, []),
  (51, 1, .iconst 1, 0, 0, 0, 0, 1, []),
  (52, 1, .isub, 0, 0, 0, 0, 0, []),
  (53, 3, .invokevirtual 147, mM_number, 2, 10, 173, 0, [(0, 1)]),
  (56, 1, .istore_n 3, 0, 0, 0, 0, 0, []),
  (57, 1, .aload_n 0, 0, 0, 0, 0, 0, []),
  (58, 3, .getfield 131, 10, 9, 0, 155, 0, []),
  (61, 3, .ifCond .le 4, 65, 0, 0, 0, 0, []),
  (64, 1, .return_, 0, 0, 0, 0, 0, []),
  (65, 1, .aload_n 0, 0, 0, 0, 0, 0, []),
  (66, 3, .getfield 23, 10, 14, 2, 126, 0, []),
  (69, 3, .sipush 404, 0, 0, 0, 0, 404, []),
  (72, 1, .iconst 3, 0, 0, 0, 0, 3, []),
  (73, 1, .iload_n 1, 0, 0, 0, 0, 0, []),
  (74, 1, .imul, 0, 0, 0, 0, 0, []),
  (75, 1, .iadd, 0, 0, 0, 0, 0, []),
  (76, 1, .iload_n 2, 0, 0, 0, 0, 0, []),
  (77, 1, .iastore, 0, 0, 0, 0, 0, []),
  (78, 1, .aload_n 0, 0, 0, 0, 0, 0, []),
  (79, 3, .getfield 23, 10, 14, 2, 126, 0, []),
  (82, 3, .sipush 404, 0, 0, 0, 0, 404, []),
  (85, 1, .iconst 3, 0, 0, 0, 0, 3, []),
  (86, 1, .iload_n 1, 0, 0, 0, 0, 0, []),
  (87, 1, .imul, 0, 0, 0, 0, 0, []),
  (88, 1, .iadd, 0, 0, 0, 0, 0, []),
  (89, 1, .iconst 1, 0, 0, 0, 0, 1, []),
  (90, 1, .iadd, 0, 0, 0, 0, 0, []),
  (91, 1, .iload_n 3, 0, 0, 0, 0, 0, []),
  (92, 1, .iastore, 0, 0, 0, 0, 0, []),
  (93, 1, .aload_n 0, 0, 0, 0, 0, 0, []),
  (94, 3, .getfield 23, 10, 14, 2, 126, 0, []),
  (97, 3, .sipush 404, 0, 0, 0, 0, 404, []),
  (100, 1, .iconst 3, 0, 0, 0, 0, 3, []),
  (101, 1, .iload_n 1, 0, 0, 0, 0, 0, []),
  (102, 1, .imul, 0, 0, 0, 0, 0, []),
  (103, 1, .iadd, 0, 0, 0, 0, 0, []),
  (104, 1, .iconst 2, 0, 0, 0, 0, 2, []),
  (105, 1, .iadd, 0, 0, 0, 0, 0, []),
  (106, 1, .iconst 1, 0, 0, 0, 0, 1, []),
  (107, 1, .iastore, 0, 0, 0, 0, 0, []),
  (108, 1, .aload_n 0, 0, 0, 0, 0, 0, []),
  (109, 3, .getfield 23, 10, 14, 2, 126, 0, []),
  (112, 1, .iconst 3, 0, 0, 0, 0, 3, []),
  (113, 1, .dup2, 0, 0, 0, 0, 0, []),
  (114, 1, .iaload, 0, 0, 0, 0, 0, []),
  (115, 1, .iconst 1, 0, 0, 0, 0, 1, []),
  (116, 1, .iadd, 0, 0, 0, 0, 0, []),
  (117, 1, .iastore, 0, 0, 0, 0, 0, []),
  (118, 1, .return_, 0, 0, 0, 0, 0, [])]
theorem ckM_dotLine_0 : ((cdM_dotLine.drop 0).take 60).all (rowOK mM_dotLine) = true := by decide +kernel
theorem ckM_dotLine_60 : ((cdM_dotLine.drop 60).take 60).all (rowOK mM_dotLine) = true := by decide +kernel
theorem ckM_dotLine : cdM_dotLine.all (rowOK mM_dotLine) = true := by
  have h : (cdM_dotLine.drop 0).all (rowOK mM_dotLine) = true := (all_cut 60 ckM_dotLine_0 (by rw [List.drop_drop]; exact (all_cut 60 ckM_dotLine_60 (by rw [List.drop_drop]; exact (by rw [show cdM_dotLine.drop 120 = [] from rfl]; rfl)))))
  exact h
def cdM_picture : List Row := [
  (0, 1, .aload_n 0, 0, 0, 0, 0, 0, []),
  (1, 1, .aload_n 0, 0, 0, 0, 0, 0, []),
  (2, 3, .getfield 87, 10, 2, 0, 147, 0, []),
  (5, 3, .putfield 101, 10, 3, 0, 149, 0, []),
  (8, 1, .aload_n 0, 0, 0, 0, 0, 0, []),
  (9, 1, .iconst 0, 0, 0, 0, 0, 0, []),
  (10, 3, .putfield 87, 10, 2, 0, 147, 0, []),
  (13, 1, .aload_n 0, 0, 0, 0, 0, 0, []),
  (14, 1, .iconst 0, 0, 0, 0, 0, 0, []),
  (15, 3, .putfield 98, 10, 4, 0, 148, 0, []),
  (18, 1, .aload_n 0, 0, 0, 0, 0, 0, []),
  (19, 1, .iconst 0, 0, 0, 0, 0, 0, []),
  (20, 3, .putfield 131, 10, 9, 0, 155, 0, []),
  (23, 1, .aload_n 0, 0, 0, 0, 0, 0, []),
  (24, 1, .iconst (-1), 0, 0, 0, 0, (-1), []),
  (25, 3, .putfield 16, 10, 10, 0, 124, 0, []),
  (28, 1, .aload_n 0, 0, 0, 0, 0, 0, []),
  (29, 1, .iconst 0, 0, 0, 0, 0, 0, []),
  (30, 3, .putfield 144, 10, 15, 0, 156, 0, []),
  (33, 1, .iconst 0, 0, 0, 0, 0, 0, []),
  (34, 1, .istore_n 1, 0, 0, 0, 0, 0, []),
  (35, 1, .iload_n 1, 0, 0, 0, 0, 0, []),
  (36, 3, .sipush 524, 0, 0, 0, 0, 524, []),
  (39, 3, .if_icmp .ge 16, 55, 0, 0, 0, 0, []),
  (42, 1, .aload_n 0, 0, 0, 0, 0, 0, []),
  (43, 3, .getfield 23, 10, 14, 2, 126, 0, []),
  (46, 1, .iload_n 1, 0, 0, 0, 0, 0, []),
  (47, 1, .iconst 0, 0, 0, 0, 0, 0, []),
  (48, 1, .iastore, 0, 0, 0, 0, 0, []),
  (49, 3, .iinc 1 1, 0, 0, 0, 0, 1, []),
  (52, 3, .goto (-17), 35, 0, 0, 0, 0, []),
  (55, 1, .aload_n 0, 0, 0, 0, 0, 0, []),
  (56, 3, .getfield 23, 10, 14, 2, 126, 0, []),
  (59, 1, .iconst 0, 0, 0, 0, 0, 0, []),
  (60, 2, .bipush 8, 0, 0, 0, 0, 8, []),
  (62, 1, .iastore, 0, 0, 0, 0, 0, []),
  (63, 1, .aload_n 0, 0, 0, 0, 0, 0, []),
  (64, 3, .getfield 23, 10, 14, 2, 126, 0, []),
  (67, 1, .iconst 1, 0, 0, 0, 0, 1, []),
  (68, 2, .bipush 8, 0, 0, 0, 0, 8, []),
  (70, 1, .iastore, 0, 0, 0, 0, 0, []),
  (71, 1, .aload_n 0, 0, 0, 0, 0, 0, []),
  (72, 3, .invokevirtual 141, mM_goOn, 0, 10, 172, 0, [(0, 0)]),
  (75, 1, .aload_n 0, 0, 0, 0, 0, 0, []),
  (76, 3, .ldc2_w 151, 1936292453, 0, 0, 6, 0, []),
  (79, 3, .invokevirtual 153, mM_isWord, 1, 10, 174, 0, [(0, 1)]),
  (82, 3, .ifCond .eq 37, 119, 0, 0, 0, 0, []),
  (85, 1, .aload_n 0, 0, 0, 0, 0, 0, []),
  (86, 3, .invokevirtual 141, mM_goOn, 0, 10, 172, 0, [(0, 0)]),
  (89, 1, .aload_n 0, 0, 0, 0, 0, 0, []),
  (90, 3, .getfield 23, 10, 14, 2, 126, 0, []),
  (93, 1, .iconst 0, 0, 0, 0, 0, 0, []),
  (94, 1, .aload_n 0, 0, 0, 0, 0, 0, []),
  (95, 1, .iconst 1, 0, 0, 0, 0, 1, []),
  (96, 2, .bipush 20, 0, 0, 0, 0, 20, []),
  (98, 3, .invokevirtual 147, mM_number, 2, 10, 173, 0, [(0, 1)]),
  (101, 1, .iastore, 0, 0, 0, 0, 0, []),
  (102, 1, .aload_n 0, 0, 0, 0, 0, 0, []),
  (103, 3, .getfield 23, 10, 14, 2, 126, 0, []),
  (106, 1, .iconst 1, 0, 0, 0, 0, 1, []),
  (107, 1, .aload_n 0, 0, 0, 0, 0, 0, []),
  (108, 1, .iconst 1, 0, 0, 0, 0, 1, []),
  (109, 2, .bipush 20, 0, 0, 0, 0, 20, []),
  (111, 3, .invokevirtual 147, mM_number, 2, 10, 173, 0, [(0, 1)]),
  (114, 1, .iastore, 0, 0, 0, 0, 0, []),
  (115, 1, .aload_n 0, 0, 0, 0, 0, 0, []),
  (116, 3, .invokevirtual 157, mM_ends, 0, 10, 175, 0, [(0, 0)]),
  (119, 1, .aload_n 0, 0, 0, 0, 0, 0, []),
  (120, 3, .invokevirtual 137, mM_isGood, 0, 10, 171, 0, [(0, 1)]),
  (123, 3, .ifCond .eq 56, 179, 0, 0, 0, 0, []),
  (126, 1, .aload_n 0, 0, 0, 0, 0, 0, []),
  (127, 3, .getfield 121, 10, 6, 0, 154, 0, []),
  (130, 3, .ifCond .eq 49, 179, 0, 0, 0, 0, []),
  (133, 1, .aload_n 0, 0, 0, 0, 0, 0, []),
  (134, 3, .ldc2_w 160, 7499639, 0, 0, 7, 0, []),
  (137, 3, .invokevirtual 153, mM_isWord, 1, 10, 174, 0, [(0, 1)]),
  (140, 3, .ifCond .eq 10, 150, 0, 0, 0, 0, []),
  (143, 1, .aload_n 0, 0, 0, 0, 0, 0, []),
  (144, 3, .invokevirtual 162, mM_rowLine, 0, 10, 176, 0, [(0, 0)]),
  (147, 3, .goto 25, 172, 0, 0, 0, 0, []),
  (150, 1, .aload_n 0, 0, 0, 0, 0, 0, []),
  (151, 3, .ldc2_w 165, 6582132, 0, 0, 8, 0, []),
  (154, 3, .invokevirtual 153, mM_isWord, 1, 10, 174, 0, [(0, 1)]),
  (157, 3, .ifCond .eq 10, 167, 0, 0, 0, 0, []),
  (160, 1, .aload_n 0, 0, 0, 0, 0, 0, []),
  (161, 3, .invokevirtual 167, mM_dotLine, 0, 10, 177, 0, [(0, 0)]),
  (164, 3, .goto 8, 172, 0, 0, 0, 0, []),
  (167, 1, .aload_n 0, 0, 0, 0, 0, 0, []),
  (168, 1, .iconst 2, 0, 0, 0, 0, 2, []),
  (169, 3, .invokevirtual 134, mM_wrong, 1, 10, 170, 0, [(0, 0)]),
  (172, 1, .aload_n 0, 0, 0, 0, 0, 0, []),
  (173, 3, .invokevirtual 157, mM_ends, 0, 10, 175, 0, [(0, 0)]),
  (176, 3, .goto (-57), 119, 0, 0, 0, 0, []),
  (179, 1, .aload_n 0, 0, 0, 0, 0, 0, []),
  (180, 1, .aload_n 0, 0, 0, 0, 0, 0, []),
  (181, 3, .getfield 131, 10, 9, 0, 155, 0, []),
  (184, 3, .putfield 170, 10, 11, 0, 157, 0, []),
  (187, 1, .aload_n 0, 0, 0, 0, 0, 0, []),
  (188, 1, .aload_n 0, 0, 0, 0, 0, 0, []),
  (189, 3, .getfield 16, 10, 10, 0, 124, 0, []),
  (192, 3, .putfield 20, 10, 12, 0, 125, 0, []),
  (195, 1, .aload_n 0, 0, 0, 0, 0, 0, []),
  (196, 3, .getfield 131, 10, 9, 0, 155, 0, []),
  (199, 3, .ifCond .le 5, 204, 0, 0, 0, 0, []),
  (202, 1, .iconst (-1), 0, 0, 0, 0, (-1), []),
  (203, 1, .ireturn, 0, 0, 0, 0, 0, []),
  (204, 1, .iconst 0, 0, 0, 0, 0, 0, []),
  (205, 1, .istore_n 1, 0, 0, 0, 0, 0, []),
  (206, 1, .iload_n 1, 0, 0, 0, 0, 0, []),
  (207, 3, .sipush 524, 0, 0, 0, 0, 524, []),
  (210, 3, .if_icmp .ge 21, 231, 0, 0, 0, 0, []),
  (213, 1, .aload_n 0, 0, 0, 0, 0, 0, []),
  (214, 3, .getfield 7, 10, 0, 2, 122, 0, []),
  (217, 1, .iload_n 1, 0, 0, 0, 0, 0, []),
  (218, 1, .aload_n 0, 0, 0, 0, 0, 0, []),
  (219, 3, .getfield 23, 10, 14, 2, 126, 0, []),
  (222, 1, .iload_n 1, 0, 0, 0, 0, 0, []),
  (223, 1, .iaload, 0, 0, 0, 0, 0, []),
  (224, 1, .iastore, 0, 0, 0, 0, 0, []),
  (225, 3, .iinc 1 1, 0, 0, 0, 0, 1, []),
  (228, 3, .goto (-22), 206, 0, 0, 0, 0, []),
  (231, 1, .aload_n 0, 0, 0, 0, 0, 0, []),
  (232, 1, .iconst 0, 0, 0, 0, 0, 0, []),
  (233, 3, .putfield 173, 10, 17, 0, 158, 0, []),
  (236, 1, .aload_n 0, 0, 0, 0, 0, 0, []),
  (237, 1, .iconst 0, 0, 0, 0, 0, 0, []),
  (238, 3, .putfield 176, 10, 18, 0, 159, 0, []),
  (241, 1, .aload_n 0, 0, 0, 0, 0, 0, []),
  (242, 1, .iconst 0, 0, 0, 0, 0, 0, []),
  (243, 3, .putfield 179, 10, 27, 0, 160, 0, []),
  (246, 1, .iconst 0, 0, 0, 0, 0, 0, []),
  (247, 1, .istore_n 1, 0, 0, 0, 0, 0, []),
  (248, 1, .iload_n 1, 0, 0, 0, 0, 0, []),
  (249, 1, .iconst 2, 0, 0, 0, 0, 2, []),
  (250, 3, .if_icmp .ge 16, 266, 0, 0, 0, 0, []),
  (253, 1, .aload_n 0, 0, 0, 0, 0, 0, []),
  (254, 3, .getfield 84, 10, 39, 2, 146, 0, []),
  (257, 1, .iload_n 1, 0, 0, 0, 0, 0, []),
  (258, 1, .iconst 0, 0, 0, 0, 0, 0, []),
  (259, 1, .bastore, 0, 0, 0, 0, 0, []),
  (260, 3, .iinc 1 1, 0, 0, 0, 0, 1, []),
  (263, 3, .goto (-15), 248, 0, 0, 0, 0, []),
  (266, 1, .aload_n 0, 0, 0, 0, 0, 0, []),
  (267, 3, .getfield 7, 10, 0, 2, 122, 0, []),
  (270, 1, .iconst 3, 0, 0, 0, 0, 3, []),
  (271, 1, .iaload, 0, 0, 0, 0, 0, []),
  (272, 1, .ireturn, 0, 0, 0, 0, 0, [])]
theorem ckM_picture_0 : ((cdM_picture.drop 0).take 60).all (rowOK mM_picture) = true := by decide +kernel
theorem ckM_picture_60 : ((cdM_picture.drop 60).take 60).all (rowOK mM_picture) = true := by decide +kernel
theorem ckM_picture_120 : ((cdM_picture.drop 120).take 60).all (rowOK mM_picture) = true := by decide +kernel
theorem ckM_picture : cdM_picture.all (rowOK mM_picture) = true := by
  have h : (cdM_picture.drop 0).all (rowOK mM_picture) = true := (all_cut 60 ckM_picture_0 (by rw [List.drop_drop]; exact (all_cut 60 ckM_picture_60 (by rw [List.drop_drop]; exact (all_cut 60 ckM_picture_120 (by rw [List.drop_drop]; exact (by rw [show cdM_picture.drop 180 = [] from rfl]; rfl)))))))
  exact h
def cdM_fault : List Row := [
  (0, 1, .iload_n 1, 0, 0, 0, 0, 0, []),
  (1, 3, .ifCond .ne 10, 11, 0, 0, 0, 0, []),
  (4, 1, .aload_n 0, 0, 0, 0, 0, 0, []),
  (5, 3, .getfield 170, 10, 11, 0, 157, 0, []),
  (8, 3, .goto 16, 24, 0, 0, 0, 0, []),
  (11, 1, .iload_n 1, 0, 0, 0, 0, 0, []),
  (12, 1, .iconst 1, 0, 0, 0, 0, 1, []),
  (13, 3, .if_icmp .ne 10, 23, 0, 0, 0, 0, []),
  (16, 1, .aload_n 0, 0, 0, 0, 0, 0, []),
  (17, 3, .getfield 20, 10, 12, 0, 125, 0, []),
  (20, 3, .goto 4, 24, 0, 0, 0, 0, []),
  (23, 1, .iconst (-1), 0, 0, 0, 0, (-1), []),
  (24, 1, .ireturn, 0, 0, 0, 0, 0, [])]
theorem ckM_fault : cdM_fault.all (rowOK mM_fault) = true := by decide +kernel
def cdM_act : List Row := [
  (0, 1, .aload_n 0, 0, 0, 0, 0, 0, []),
  (1, 3, .getfield 173, 10, 17, 0, 158, 0, []),
  (4, 2, .bipush 12, 0, 0, 0, 0, 12, []),
  (6, 3, .if_icmp .ne 46, 52, 0, 0, 0, 0, []),
  (9, 3, .sipush 524, 0, 0, 0, 0, 524, []),
  (12, 1, .istore_n 1, 0, 0, 0, 0, 0, []),
  (13, 1, .iload_n 1, 0, 0, 0, 0, 0, []),
  (14, 3, .sipush 6288, 0, 0, 0, 0, 6288, []),
  (17, 3, .if_icmp .ge 25, 42, 0, 0, 0, 0, []),
  (20, 1, .aload_n 0, 0, 0, 0, 0, 0, []),
  (21, 3, .getfield 26, 10, 16, 2, 127, 0, []),
  (24, 1, .iload_n 1, 0, 0, 0, 0, 0, []),
  (25, 3, .sipush 524, 0, 0, 0, 0, 524, []),
  (28, 1, .isub, 0, 0, 0, 0, 0, []),
  (29, 1, .aload_n 0, 0, 0, 0, 0, 0, []),
  (30, 3, .getfield 26, 10, 16, 2, 127, 0, []),
  (33, 1, .iload_n 1, 0, 0, 0, 0, 0, []),
  (34, 1, .iaload, 0, 0, 0, 0, 0, []),
  (35, 1, .iastore, 0, 0, 0, 0, 0, []),
  (36, 3, .iinc 1 1, 0, 0, 0, 0, 1, []),
  (39, 3, .goto (-26), 13, 0, 0, 0, 0, []),
  (42, 1, .aload_n 0, 0, 0, 0, 0, 0, []),
  (43, 1, .dup, 0, 0, 0, 0, 0, []),
  (44, 3, .getfield 173, 10, 17, 0, 158, 0, []),
  (47, 1, .iconst 1, 0, 0, 0, 0, 1, []),
  (48, 1, .isub, 0, 0, 0, 0, 0, []),
  (49, 3, .putfield 173, 10, 17, 0, 158, 0, []),
  (52, 1, .iconst 0, 0, 0, 0, 0, 0, []),
  (53, 1, .istore_n 1, 0, 0, 0, 0, 0, []),
  (54, 1, .iload_n 1, 0, 0, 0, 0, 0, []),
  (55, 3, .sipush 524, 0, 0, 0, 0, 524, []),
  (58, 3, .if_icmp .ge 30, 88, 0, 0, 0, 0, []),
  (61, 1, .aload_n 0, 0, 0, 0, 0, 0, []),
  (62, 3, .getfield 26, 10, 16, 2, 127, 0, []),
  (65, 3, .sipush 524, 0, 0, 0, 0, 524, []),
  (68, 1, .aload_n 0, 0, 0, 0, 0, 0, []),
  (69, 3, .getfield 173, 10, 17, 0, 158, 0, []),
  (72, 1, .imul, 0, 0, 0, 0, 0, []),
  (73, 1, .iload_n 1, 0, 0, 0, 0, 0, []),
  (74, 1, .iadd, 0, 0, 0, 0, 0, []),
  (75, 1, .aload_n 0, 0, 0, 0, 0, 0, []),
  (76, 3, .getfield 7, 10, 0, 2, 122, 0, []),
  (79, 1, .iload_n 1, 0, 0, 0, 0, 0, []),
  (80, 1, .iaload, 0, 0, 0, 0, 0, []),
  (81, 1, .iastore, 0, 0, 0, 0, 0, []),
  (82, 3, .iinc 1 1, 0, 0, 0, 0, 1, []),
  (85, 3, .goto (-31), 54, 0, 0, 0, 0, []),
  (88, 1, .aload_n 0, 0, 0, 0, 0, 0, []),
  (89, 1, .dup, 0, 0, 0, 0, 0, []),
  (90, 3, .getfield 173, 10, 17, 0, 158, 0, []),
  (93, 1, .iconst 1, 0, 0, 0, 0, 1, []),
  (94, 1, .iadd, 0, 0, 0, 0, 0, []),
  (95, 3, .putfield 173, 10, 17, 0, 158, 0, []),
  (98, 1, .aload_n 0, 0, 0, 0, 0, 0, []),
  (99, 1, .iconst 0, 0, 0, 0, 0, 0, []),
  (100, 3, .putfield 176, 10, 18, 0, 159, 0, []),
  (103, 1, .return_, 0, 0, 0, 0, 0, [])]
theorem ckM_act : cdM_act.all (rowOK mM_act) = true := by decide +kernel
def cdM_otherAct : List Row := [
  (0, 1, .aload_n 0, 0, 0, 0, 0, 0, []),
  (1, 3, .invokevirtual 182, mM_act, 0, 10, 178, 0, [(0, 0)]),
  (4, 1, .aload_n 0, 0, 0, 0, 0, 0, []),
  (5, 1, .iconst 0, 0, 0, 0, 0, 0, []),
  (6, 3, .putfield 179, 10, 27, 0, 160, 0, []),
  (9, 1, .return_, 0, 0, 0, 0, 0, [])]
theorem ckM_otherAct : cdM_otherAct.all (rowOK mM_otherAct) = true := by decide +kernel
def cdM_exchanges : List Row := [
  (0, 1, .iconst 0, 0, 0, 0, 0, 0, []),
  (1, 1, .istore_n 2, 0, 0, 0, 0, 0, []),
  (2, 1, .iload_n 2, 0, 0, 0, 0, 0, []),
  (3, 3, .sipush 524, 0, 0, 0, 0, 524, []),
  (6, 3, .if_icmp .ge 47, 53, 0, 0, 0, 0, []),
  (9, 1, .aload_n 0, 0, 0, 0, 0, 0, []),
  (10, 3, .getfield 26, 10, 16, 2, 127, 0, []),
  (13, 3, .sipush 524, 0, 0, 0, 0, 524, []),
  (16, 1, .iload_n 1, 0, 0, 0, 0, 0, []),
  (17, 1, .imul, 0, 0, 0, 0, 0, []),
  (18, 1, .iload_n 2, 0, 0, 0, 0, 0, []),
  (19, 1, .iadd, 0, 0, 0, 0, 0, []),
  (20, 1, .iaload, 0, 0, 0, 0, 0, []),
  (21, 1, .istore_n 3, 0, 0, 0, 0, 0, []),
  (22, 1, .aload_n 0, 0, 0, 0, 0, 0, []),
  (23, 3, .getfield 26, 10, 16, 2, 127, 0, []),
  (26, 3, .sipush 524, 0, 0, 0, 0, 524, []),
  (29, 1, .iload_n 1, 0, 0, 0, 0, 0, []),
  (30, 1, .imul, 0, 0, 0, 0, 0, []),
  (31, 1, .iload_n 2, 0, 0, 0, 0, 0, []),
  (32, 1, .iadd, 0, 0, 0, 0, 0, []),
  (33, 1, .aload_n 0, 0, 0, 0, 0, 0, []),
  (34, 3, .getfield 7, 10, 0, 2, 122, 0, []),
  (37, 1, .iload_n 2, 0, 0, 0, 0, 0, []),
  (38, 1, .iaload, 0, 0, 0, 0, 0, []),
  (39, 1, .iastore, 0, 0, 0, 0, 0, []),
  (40, 1, .aload_n 0, 0, 0, 0, 0, 0, []),
  (41, 3, .getfield 7, 10, 0, 2, 122, 0, []),
  (44, 1, .iload_n 2, 0, 0, 0, 0, 0, []),
  (45, 1, .iload_n 3, 0, 0, 0, 0, 0, []),
  (46, 1, .iastore, 0, 0, 0, 0, 0, []),
  (47, 3, .iinc 2 1, 0, 0, 0, 0, 1, []),
  (50, 3, .goto (-48), 2, 0, 0, 0, 0, []),
  (53, 1, .aload_n 0, 0, 0, 0, 0, 0, []),
  (54, 1, .iconst 0, 0, 0, 0, 0, 0, []),
  (55, 3, .putfield 179, 10, 27, 0, 160, 0, []),
  (58, 1, .return_, 0, 0, 0, 0, 0, [])]
theorem ckM_exchanges : cdM_exchanges.all (rowOK mM_exchanges) = true := by decide +kernel
def cdM_undo : List Row := [
  (0, 1, .aload_n 0, 0, 0, 0, 0, 0, []),
  (1, 3, .getfield 173, 10, 17, 0, 158, 0, []),
  (4, 3, .ifCond .ne 5, 9, 0, 0, 0, 0, []),
  (7, 1, .iconst 0, 0, 0, 0, 0, 0, []),
  (8, 1, .ireturn, 0, 0, 1, 0, 0, []),
  (9, 1, .aload_n 0, 0, 0, 0, 0, 0, []),
  (10, 1, .dup, 0, 0, 0, 0, 0, []),
  (11, 3, .getfield 173, 10, 17, 0, 158, 0, []),
  (14, 1, .iconst 1, 0, 0, 0, 0, 1, []),
  (15, 1, .isub, 0, 0, 0, 0, 0, []),
  (16, 3, .putfield 173, 10, 17, 0, 158, 0, []),
  (19, 1, .aload_n 0, 0, 0, 0, 0, 0, []),
  (20, 1, .dup, 0, 0, 0, 0, 0, []),
  (21, 3, .getfield 176, 10, 18, 0, 159, 0, []),
  (24, 1, .iconst 1, 0, 0, 0, 0, 1, []),
  (25, 1, .iadd, 0, 0, 0, 0, 0, []),
  (26, 3, .putfield 176, 10, 18, 0, 159, 0, []),
  (29, 1, .aload_n 0, 0, 0, 0, 0, 0, []),
  (30, 1, .aload_n 0, 0, 0, 0, 0, 0, []),
  (31, 3, .getfield 173, 10, 17, 0, 158, 0, []),
  (34, 3, .invokevirtual 185, mM_exchanges, 1, 10, 179, 0, [(0, 0)]),
  (37, 1, .iconst 1, 0, 0, 0, 0, 1, []),
  (38, 1, .ireturn, 0, 0, 1, 0, 0, [])]
theorem ckM_undo : cdM_undo.all (rowOK mM_undo) = true := by decide +kernel
def cdM_redo : List Row := [
  (0, 1, .aload_n 0, 0, 0, 0, 0, 0, []),
  (1, 3, .getfield 176, 10, 18, 0, 159, 0, []),
  (4, 3, .ifCond .ne 5, 9, 0, 0, 0, 0, []),
  (7, 1, .iconst 0, 0, 0, 0, 0, 0, []),
  (8, 1, .ireturn, 0, 0, 1, 0, 0, []),
  (9, 1, .aload_n 0, 0, 0, 0, 0, 0, []),
  (10, 1, .dup, 0, 0, 0, 0, 0, []),
  (11, 3, .getfield 176, 10, 18, 0, 159, 0, []),
  (14, 1, .iconst 1, 0, 0, 0, 0, 1, []),
  (15, 1, .isub, 0, 0, 0, 0, 0, []),
  (16, 3, .putfield 176, 10, 18, 0, 159, 0, []),
  (19, 1, .aload_n 0, 0, 0, 0, 0, 0, []),
  (20, 1, .aload_n 0, 0, 0, 0, 0, 0, []),
  (21, 3, .getfield 173, 10, 17, 0, 158, 0, []),
  (24, 3, .invokevirtual 185, mM_exchanges, 1, 10, 179, 0, [(0, 0)]),
  (27, 1, .aload_n 0, 0, 0, 0, 0, 0, []),
  (28, 1, .dup, 0, 0, 0, 0, 0, []),
  (29, 3, .getfield 173, 10, 17, 0, 158, 0, []),
  (32, 1, .iconst 1, 0, 0, 0, 0, 1, []),
  (33, 1, .iadd, 0, 0, 0, 0, 0, []),
  (34, 3, .putfield 173, 10, 17, 0, 158, 0, []),
  (37, 1, .iconst 1, 0, 0, 0, 0, 1, []),
  (38, 1, .ireturn, 0, 0, 1, 0, 0, [])]
theorem ckM_redo : cdM_redo.all (rowOK mM_redo) = true := by decide +kernel
def cdM_wide : List Row := [
  (0, 1, .aload_n 0, 0, 0, 0, 0, 0, []),
  (1, 3, .getfield 7, 10, 0, 2, 122, 0, []),
  (4, 1, .iconst 0, 0, 0, 0, 0, 0, []),
  (5, 1, .iaload, 0, 0, 0, 0, 0, []),
  (6, 1, .ireturn, 0, 0, 0, 0, 0, [])]
theorem ckM_wide : cdM_wide.all (rowOK mM_wide) = true := by decide +kernel
def cdM_high : List Row := [
  (0, 1, .aload_n 0, 0, 0, 0, 0, 0, []),
  (1, 3, .getfield 7, 10, 0, 2, 122, 0, []),
  (4, 1, .iconst 1, 0, 0, 0, 0, 1, []),
  (5, 1, .iaload, 0, 0, 0, 0, 0, []),
  (6, 1, .ireturn, 0, 0, 0, 0, 0, [])]
theorem ckM_high : cdM_high.all (rowOK mM_high) = true := by decide +kernel
def cdM_cells : List Row := [
  (0, 1, .aload_n 0, 0, 0, 0, 0, 0, []),
  (1, 3, .invokevirtual 188, mM_wide, 0, 10, 180, 0, [(0, 1)]),
  (4, 1, .aload_n 0, 0, 0, 0, 0, 0, []),
  (5, 3, .invokevirtual 192, mM_high, 0, 10, 181, 0, [(0, 1)]),
  (8, 1, .imul, 0, 0, 0, 0, 0, []),
  (9, 1, .ireturn, 0, 0, 0, 0, 0, [])]
theorem ckM_cells : cdM_cells.all (rowOK mM_cells) = true := by decide +kernel
def cdM_dots : List Row := [
  (0, 1, .aload_n 0, 0, 0, 0, 0, 0, []),
  (1, 3, .getfield 7, 10, 0, 2, 122, 0, []),
  (4, 1, .iconst 3, 0, 0, 0, 0, 3, []),
  (5, 1, .iaload, 0, 0, 0, 0, 0, []),
  (6, 1, .ireturn, 0, 0, 0, 0, 0, [])]
theorem ckM_dots : cdM_dots.all (rowOK mM_dots) = true := by decide +kernel
def cdM_isCell : List Row := [
  (0, 1, .iload_n 1, 0, 0, 0, 0, 0, []),
  (1, 1, .i2l, 0, 0, 0, 0, 0, []),
  (2, 1, .lconst 0, 0, 0, 0, 0, 0, []),
  (3, 1, .aload_n 0, 0, 0, 0, 0, 0, []),
  (4, 3, .invokevirtual 188, mM_wide, 0, 10, 180, 0, [(0, 1)]),
  (7, 1, .iconst 1, 0, 0, 0, 0, 1, []),
  (8, 1, .isub, 0, 0, 0, 0, 0, []),
  (9, 1, .i2l, 0, 0, 0, 0, 0, []),
  (10, 3, .invokestatic 94, mM_isIn, 3, 0, 166, 0, [(0, 1)]),
  (13, 3, .ifCond .eq 23, 36, 0, 0, 0, 0, []),
  (16, 1, .iload_n 2, 0, 0, 0, 0, 0, []),
  (17, 1, .i2l, 0, 0, 0, 0, 0, []),
  (18, 1, .lconst 0, 0, 0, 0, 0, 0, []),
  (19, 1, .aload_n 0, 0, 0, 0, 0, 0, []),
  (20, 3, .invokevirtual 192, mM_high, 0, 10, 181, 0, [(0, 1)]),
  (23, 1, .iconst 1, 0, 0, 0, 0, 1, []),
  (24, 1, .isub, 0, 0, 0, 0, 0, []),
  (25, 1, .i2l, 0, 0, 0, 0, 0, []),
  (26, 3, .invokestatic 94, mM_isIn, 3, 0, 166, 0, [(0, 1)]),
  (29, 3, .ifCond .eq 7, 36, 0, 0, 0, 0, []),
  (32, 1, .iconst 1, 0, 0, 0, 0, 1, []),
  (33, 3, .goto 4, 37, 0, 0, 0, 0, []),
  (36, 1, .iconst 0, 0, 0, 0, 0, 0, []),
  (37, 1, .ireturn, 0, 0, 1, 0, 0, [])]
theorem ckM_isCell : cdM_isCell.all (rowOK mM_isCell) = true := by decide +kernel
def cdM_isDot : List Row := [
  (0, 1, .iload_n 1, 0, 0, 0, 0, 0, []),
  (1, 1, .i2l, 0, 0, 0, 0, 0, []),
  (2, 1, .lconst 0, 0, 0, 0, 0, 0, []),
  (3, 1, .aload_n 0, 0, 0, 0, 0, 0, []),
  (4, 3, .invokevirtual 195, mM_dots, 0, 10, 182, 0, [(0, 1)]),
  (7, 1, .iconst 1, 0, 0, 0, 0, 1, []),
  (8, 1, .isub, 0, 0, 0, 0, 0, []),
  (9, 1, .i2l, 0, 0, 0, 0, 0, []),
  (10, 3, .invokestatic 94, mM_isIn, 3, 0, 166, 0, [(0, 1)]),
  (13, 1, .ireturn, 0, 0, 1, 0, 0, [])]
theorem ckM_isDot : cdM_isDot.all (rowOK mM_isDot) = true := by decide +kernel
def cdM_weight : List Row := [
  (0, 1, .aload_n 0, 0, 0, 0, 0, 0, []),
  (1, 3, .getfield 7, 10, 0, 2, 122, 0, []),
  (4, 1, .iconst 4, 0, 0, 0, 0, 4, []),
  (5, 1, .iload_n 1, 0, 0, 0, 0, 0, []),
  (6, 1, .iadd, 0, 0, 0, 0, 0, []),
  (7, 1, .iaload, 0, 0, 0, 0, 0, []),
  (8, 1, .ireturn, 0, 0, 0, 0, 0, [])]
theorem ckM_weight : cdM_weight.all (rowOK mM_weight) = true := by decide +kernel
def cdM_numberOf : List Row := [
  (0, 1, .aload_n 0, 0, 0, 0, 0, 0, []),
  (1, 3, .invokevirtual 188, mM_wide, 0, 10, 180, 0, [(0, 1)]),
  (4, 1, .iload_n 2, 0, 0, 0, 0, 0, []),
  (5, 1, .imul, 0, 0, 0, 0, 0, []),
  (6, 1, .iload_n 1, 0, 0, 0, 0, 0, []),
  (7, 1, .iadd, 0, 0, 0, 0, 0, []),
  (8, 1, .ireturn, 0, 0, 0, 0, 0, [])]
theorem ckM_numberOf : cdM_numberOf.all (rowOK mM_numberOf) = true := by decide +kernel
def cdM_divisor : List Row := [
  (0, 1, .iload_n 0, 0, 0, 0, 0, 0, []),
  (1, 1, .istore_n 2, 0, 0, 0, 0, 0, []),
  (2, 1, .iload_n 1, 0, 0, 0, 0, 0, []),
  (3, 1, .istore_n 3, 0, 0, 0, 0, 0, []),
  (4, 1, .iload_n 3, 0, 0, 0, 0, 0, []),
  (5, 3, .ifCond .eq 16, 21, 0, 0, 0, 0, []),
  (8, 1, .iload_n 2, 0, 0, 0, 0, 0, []),
  (9, 1, .iload_n 3, 0, 0, 0, 0, 0, []),
  (10, 1, .irem, 0, 0, 0, 0, 0, []),
  (11, 2, .istore 4, 0, 0, 0, 0, 0, []),
  (13, 1, .iload_n 3, 0, 0, 0, 0, 0, []),
  (14, 1, .istore_n 2, 0, 0, 0, 0, 0, []),
  (15, 2, .iload 4, 0, 0, 0, 0, 0, []),
  (17, 1, .istore_n 3, 0, 0, 0, 0, 0, []),
  (18, 3, .goto (-14), 4, 0, 0, 0, 0, []),
  (21, 1, .iload_n 2, 0, 0, 0, 0, 0, []),
  (22, 1, .ireturn, 0, 0, 0, 0, 0, [])]
theorem ckM_divisor : cdM_divisor.all (rowOK mM_divisor) = true := by decide +kernel
def cdM_lays : List Row := [
  (0, 1, .iload_n 2, 0, 0, 0, 0, 0, []),
  (1, 3, .invokestatic 198, mM_size, 1, 0, 183, 0, [(0, 1)]),
  (4, 1, .iload_n 3, 0, 0, 0, 0, 0, []),
  (5, 3, .invokestatic 198, mM_size, 1, 0, 183, 0, [(0, 1)]),
  (8, 3, .invokestatic 201, mM_divisor, 2, 0, 184, 0, [(0, 1)]),
  (11, 2, .iload 4, 0, 0, 0, 0, 0, []),
  (13, 3, .invokestatic 201, mM_divisor, 2, 0, 184, 0, [(0, 1)]),
  (16, 2, .istore 5, 0, 0, 0, 0, 0, []),
  (18, 1, .aload_n 0, 0, 0, 0, 0, 0, []),
  (19, 3, .getfield 7, 10, 0, 2, 122, 0, []),
  (22, 3, .sipush 404, 0, 0, 0, 0, 404, []),
  (25, 1, .iconst 3, 0, 0, 0, 0, 3, []),
  (26, 1, .iload_n 1, 0, 0, 0, 0, 0, []),
  (27, 1, .imul, 0, 0, 0, 0, 0, []),
  (28, 1, .iadd, 0, 0, 0, 0, 0, []),
  (29, 1, .iload_n 2, 0, 0, 0, 0, 0, []),
  (30, 2, .iload 5, 0, 0, 0, 0, 0, []),
  (32, 1, .idiv, 0, 0, 0, 0, 0, []),
  (33, 1, .iastore, 0, 0, 0, 0, 0, []),
  (34, 1, .aload_n 0, 0, 0, 0, 0, 0, []),
  (35, 3, .getfield 7, 10, 0, 2, 122, 0, []),
  (38, 3, .sipush 404, 0, 0, 0, 0, 404, []),
  (41, 1, .iconst 3, 0, 0, 0, 0, 3, []),
  (42, 1, .iload_n 1, 0, 0, 0, 0, 0, []),
  (43, 1, .imul, 0, 0, 0, 0, 0, []),
  (44, 1, .iadd, 0, 0, 0, 0, 0, []),
  (45, 1, .iconst 1, 0, 0, 0, 0, 1, []),
  (46, 1, .iadd, 0, 0, 0, 0, 0, []),
  (47, 1, .iload_n 3, 0, 0, 0, 0, 0, []),
  (48, 2, .iload 5, 0, 0, 0, 0, 0, []),
  (50, 1, .idiv, 0, 0, 0, 0, 0, []),
  (51, 1, .iastore, 0, 0, 0, 0, 0, []),
  (52, 1, .aload_n 0, 0, 0, 0, 0, 0, []),
  (53, 3, .getfield 7, 10, 0, 2, 122, 0, []),
  (56, 3, .sipush 404, 0, 0, 0, 0, 404, []),
  (59, 1, .iconst 3, 0, 0, 0, 0, 3, []),
  (60, 1, .iload_n 1, 0, 0, 0, 0, 0, []),
  (61, 1, .imul, 0, 0, 0, 0, 0, []),
  (62, 1, .iadd, 0, 0, 0, 0, 0, []),
  (63, 1, .iconst 2, 0, 0, 0, 0, 2, []),
  (64, 1, .iadd, 0, 0, 0, 0, 0, []),
  (65, 2, .iload 4, 0, 0, 0, 0, 0, []),
  (67, 2, .iload 5, 0, 0, 0, 0, 0, []),
  (69, 1, .idiv, 0, 0, 0, 0, 0, []),
  (70, 1, .iastore, 0, 0, 0, 0, 0, []),
  (71, 1, .return_, 0, 0, 0, 0, 0, [])]
theorem ckM_lays : cdM_lays.all (rowOK mM_lays) = true := by decide +kernel
def cdM_xOf : List Row := [
  (0, 1, .aload_n 0, 0, 0, 0, 0, 0, []),
  (1, 3, .getfield 7, 10, 0, 2, 122, 0, []),
  (4, 3, .sipush 404, 0, 0, 0, 0, 404, []),
  (7, 1, .iconst 3, 0, 0, 0, 0, 3, []),
  (8, 1, .iload_n 1, 0, 0, 0, 0, 0, []),
  (9, 1, .imul, 0, 0, 0, 0, 0, []),
  (10, 1, .iadd, 0, 0, 0, 0, 0, []),
  (11, 1, .iaload, 0, 0, 0, 0, 0, []),
  (12, 1, .ireturn, 0, 0, 0, 0, 0, [])]
theorem ckM_xOf : cdM_xOf.all (rowOK mM_xOf) = true := by decide +kernel
def cdM_yOf : List Row := [
  (0, 1, .aload_n 0, 0, 0, 0, 0, 0, []),
  (1, 3, .getfield 7, 10, 0, 2, 122, 0, []),
  (4, 3, .sipush 404, 0, 0, 0, 0, 404, []),
  (7, 1, .iconst 3, 0, 0, 0, 0, 3, []),
  (8, 1, .iload_n 1, 0, 0, 0, 0, 0, []),
  (9, 1, .imul, 0, 0, 0, 0, 0, []),
  (10, 1, .iadd, 0, 0, 0, 0, 0, []),
  (11, 1, .iconst 1, 0, 0, 0, 0, 1, []),
  (12, 1, .iadd, 0, 0, 0, 0, 0, []),
  (13, 1, .iaload, 0, 0, 0, 0, 0, []),
  (14, 1, .ireturn, 0, 0, 0, 0, 0, [])]
theorem ckM_yOf : cdM_yOf.all (rowOK mM_yOf) = true := by decide +kernel
def cdM_under : List Row := [
  (0, 1, .aload_n 0, 0, 0, 0, 0, 0, []),
  (1, 3, .getfield 7, 10, 0, 2, 122, 0, []),
  (4, 3, .sipush 404, 0, 0, 0, 0, 404, []),
  (7, 1, .iconst 3, 0, 0, 0, 0, 3, []),
  (8, 1, .iload_n 1, 0, 0, 0, 0, 0, []),
  (9, 1, .imul, 0, 0, 0, 0, 0, []),
  (10, 1, .iadd, 0, 0, 0, 0, 0, []),
  (11, 1, .iconst 2, 0, 0, 0, 0, 2, []),
  (12, 1, .iadd, 0, 0, 0, 0, 0, []),
  (13, 1, .iaload, 0, 0, 0, 0, 0, []),
  (14, 1, .i2l, 0, 0, 0, 0, 0, []),
  (15, 1, .lreturn, 0, 0, 0, 0, 0, [])]
theorem ckM_under : cdM_under.all (rowOK mM_under) = true := by decide +kernel
def cdM_upper : List Row := [
  (0, 1, .iload_n 1, 0, 0, 0, 0, 0, []),
  (1, 1, .aload_n 0, 0, 0, 0, 0, 0, []),
  (2, 3, .invokevirtual 188, mM_wide, 0, 10, 180, 0, [(0, 1)]),
  (5, 1, .irem, 0, 0, 0, 0, 0, []),
  (6, 1, .i2l, 0, 0, 0, 0, 0, []),
  (7, 1, .aload_n 0, 0, 0, 0, 0, 0, []),
  (8, 1, .iload_n 2, 0, 0, 0, 0, 0, []),
  (9, 3, .invokevirtual 204, mM_under, 1, 10, 185, 0, [(0, 2)]),
  (12, 1, .lmul, 0, 0, 0, 0, 0, []),
  (13, 1, .aload_n 0, 0, 0, 0, 0, 0, []),
  (14, 1, .iload_n 2, 0, 0, 0, 0, 0, []),
  (15, 3, .invokevirtual 208, mM_xOf, 1, 10, 186, 0, [(0, 1)]),
  (18, 1, .i2l, 0, 0, 0, 0, 0, []),
  (19, 1, .lsub, 0, 0, 0, 0, 0, []),
  (20, 1, .lstore_n 3, 0, 0, 0, 0, 0, []),
  (21, 1, .iload_n 1, 0, 0, 0, 0, 0, []),
  (22, 1, .aload_n 0, 0, 0, 0, 0, 0, []),
  (23, 3, .invokevirtual 188, mM_wide, 0, 10, 180, 0, [(0, 1)]),
  (26, 1, .idiv, 0, 0, 0, 0, 0, []),
  (27, 1, .i2l, 0, 0, 0, 0, 0, []),
  (28, 1, .aload_n 0, 0, 0, 0, 0, 0, []),
  (29, 1, .iload_n 2, 0, 0, 0, 0, 0, []),
  (30, 3, .invokevirtual 204, mM_under, 1, 10, 185, 0, [(0, 2)]),
  (33, 1, .lmul, 0, 0, 0, 0, 0, []),
  (34, 1, .aload_n 0, 0, 0, 0, 0, 0, []),
  (35, 1, .iload_n 2, 0, 0, 0, 0, 0, []),
  (36, 3, .invokevirtual 211, mM_yOf, 1, 10, 187, 0, [(0, 1)]),
  (39, 1, .i2l, 0, 0, 0, 0, 0, []),
  (40, 1, .lsub, 0, 0, 0, 0, 0, []),
  (41, 2, .lstore 5, 0, 0, 0, 0, 0, []),
  (43, 1, .lload_n 3, 0, 0, 0, 0, 0, []),
  (44, 1, .lload_n 3, 0, 0, 0, 0, 0, []),
  (45, 1, .lmul, 0, 0, 0, 0, 0, []),
  (46, 2, .lload 5, 0, 0, 0, 0, 0, []),
  (48, 2, .lload 5, 0, 0, 0, 0, 0, []),
  (50, 1, .lmul, 0, 0, 0, 0, 0, []),
  (51, 1, .ladd, 0, 0, 0, 0, 0, []),
  (52, 1, .lreturn, 0, 0, 0, 0, 0, [])]
theorem ckM_upper : cdM_upper.all (rowOK mM_upper) = true := by decide +kernel
def cdM_lower : List Row := [
  (0, 1, .aload_n 0, 0, 0, 0, 0, 0, []),
  (1, 1, .iload_n 1, 0, 0, 0, 0, 0, []),
  (2, 3, .invokevirtual 204, mM_under, 1, 10, 185, 0, [(0, 2)]),
  (5, 1, .aload_n 0, 0, 0, 0, 0, 0, []),
  (6, 1, .iload_n 1, 0, 0, 0, 0, 0, []),
  (7, 3, .invokevirtual 204, mM_under, 1, 10, 185, 0, [(0, 2)]),
  (10, 1, .lmul, 0, 0, 0, 0, 0, []),
  (11, 1, .lreturn, 0, 0, 0, 0, 0, [])]
theorem ckM_lower : cdM_lower.all (rowOK mM_lower) = true := by decide +kernel
end
section
/-! ===== code as rows ===== -/
def cdM_isNearer : List Row := [
  (0, 1, .aload_n 0, 0, 0, 0, 0, 0, []),
  (1, 1, .iload_n 1, 0, 0, 0, 0, 0, []),
  (2, 1, .iload_n 2, 0, 0, 0, 0, 0, []),
  (3, 3, .invokevirtual 214, mM_upper, 2, 10, 188, 0, [(0, 2)]),
  (6, 1, .aload_n 0, 0, 0, 0, 0, 0, []),
  (7, 1, .iload_n 3, 0, 0, 0, 0, 0, []),
  (8, 3, .invokevirtual 218, mM_lower, 1, 10, 189, 0, [(0, 2)]),
  (11, 1, .lmul, 0, 0, 0, 0, 0, []),
  (12, 1, .aload_n 0, 0, 0, 0, 0, 0, []),
  (13, 1, .iload_n 1, 0, 0, 0, 0, 0, []),
  (14, 1, .iload_n 3, 0, 0, 0, 0, 0, []),
  (15, 3, .invokevirtual 214, mM_upper, 2, 10, 188, 0, [(0, 2)]),
  (18, 1, .aload_n 0, 0, 0, 0, 0, 0, []),
  (19, 1, .iload_n 2, 0, 0, 0, 0, 0, []),
  (20, 3, .invokevirtual 218, mM_lower, 1, 10, 189, 0, [(0, 2)]),
  (23, 1, .lmul, 0, 0, 0, 0, 0, []),
  (24, 1, .lcmp, 0, 0, 0, 0, 0, []),
  (25, 3, .ifCond .ge 7, 32, 0, 0, 0, 0, []),
  (28, 1, .iconst 1, 0, 0, 0, 0, 1, []),
  (29, 3, .goto 4, 33, 0, 0, 0, 0, []),
  (32, 1, .iconst 0, 0, 0, 0, 0, 0, []),
  (33, 1, .ireturn, 0, 0, 1, 0, 0, [])]
theorem ckM_isNearer : cdM_isNearer.all (rowOK mM_isNearer) = true := by decide +kernel
def cdM_laysOwners : List Row := [
  (0, 1, .iconst 0, 0, 0, 0, 0, 0, []),
  (1, 1, .istore_n 1, 0, 0, 0, 0, 0, []),
  (2, 1, .iload_n 1, 0, 0, 0, 0, 0, []),
  (3, 1, .aload_n 0, 0, 0, 0, 0, 0, []),
  (4, 3, .invokevirtual 221, mM_cells, 0, 10, 190, 0, [(0, 1)]),
  (7, 3, .if_icmp .ge 21, 28, 0, 0, 0, 0, []),
  (10, 1, .aload_n 0, 0, 0, 0, 0, 0, []),
  (11, 3, .getfield 29, 10, 19, 2, 128, 0, []),
  (14, 1, .iload_n 1, 0, 0, 0, 0, 0, []),
  (15, 1, .aload_n 0, 0, 0, 0, 0, 0, []),
  (16, 1, .iload_n 1, 0, 0, 0, 0, 0, []),
  (17, 1, .iconst (-1), 0, 0, 0, 0, (-1), []),
  (18, 3, .invokevirtual 224, mM_ownerBut, 2, 10, 191, 0, [(0, 1)]),
  (21, 1, .iastore, 0, 0, 0, 0, 0, []),
  (22, 3, .iinc 1 1, 0, 0, 0, 0, 1, []),
  (25, 3, .goto (-23), 2, 0, 0, 0, 0, []),
  (28, 1, .return_, 0, 0, 0, 0, 0, [])]
theorem ckM_laysOwners : cdM_laysOwners.all (rowOK mM_laysOwners) = true := by decide +kernel
def cdM_ownerBut : List Row := [
  (0, 1, .iconst (-1), 0, 0, 0, 0, (-1), []),
  (1, 1, .istore_n 3, 0, 0, 0, 0, 0, []),
  (2, 1, .iconst 0, 0, 0, 0, 0, 0, []),
  (3, 2, .istore 4, 0, 0, 0, 0, 0, []),
  (5, 2, .iload 4, 0, 0, 0, 0, 0, []),
  (7, 1, .aload_n 0, 0, 0, 0, 0, 0, []),
  (8, 3, .invokevirtual 195, mM_dots, 0, 10, 182, 0, [(0, 1)]),
  (11, 3, .if_icmp .ge 34, 45, 0, 0, 0, 0, []),
  (14, 2, .iload 4, 0, 0, 0, 0, 0, []),
  (16, 1, .iload_n 2, 0, 0, 0, 0, 0, []),
  (17, 3, .if_icmp .eq 22, 39, 0, 0, 0, 0, []),
  (20, 1, .iload_n 3, 0, 0, 0, 0, 0, []),
  (21, 1, .iconst (-1), 0, 0, 0, 0, (-1), []),
  (22, 3, .if_icmp .eq 14, 36, 0, 0, 0, 0, []),
  (25, 1, .aload_n 0, 0, 0, 0, 0, 0, []),
  (26, 1, .iload_n 1, 0, 0, 0, 0, 0, []),
  (27, 2, .iload 4, 0, 0, 0, 0, 0, []),
  (29, 1, .iload_n 3, 0, 0, 0, 0, 0, []),
  (30, 3, .invokevirtual 227, mM_isNearer, 3, 10, 192, 0, [(0, 1)]),
  (33, 3, .ifCond .eq 6, 39, 0, 0, 0, 0, []),
  (36, 2, .iload 4, 0, 0, 0, 0, 0, []),
  (38, 1, .istore_n 3, 0, 0, 0, 0, 0, []),
  (39, 3, .iinc 4 1, 0, 0, 0, 0, 1, []),
  (42, 3, .goto (-37), 5, 0, 0, 0, 0, []),
  (45, 1, .iload_n 3, 0, 0, 0, 0, 0, []),
  (46, 1, .ireturn, 0, 0, 0, 0, 0, [])]
theorem ckM_ownerBut : cdM_ownerBut.all (rowOK mM_ownerBut) = true := by decide +kernel
def cdM_costBy : List Row := [
  (0, 1, .iload_n 2, 0, 0, 0, 0, 0, []),
  (1, 1, .iconst (-1), 0, 0, 0, 0, (-1), []),
  (2, 3, .if_icmp .ne 7, 9, 0, 0, 0, 0, []),
  (5, 1, .lconst 0, 0, 0, 0, 0, 0, []),
  (6, 3, .goto 26, 32, 0, 0, 0, 0, []),
  (9, 3, .ldc2_w 231, 1000, 0, 0, 9, 0, []),
  (12, 1, .aload_n 0, 0, 0, 0, 0, 0, []),
  (13, 1, .iload_n 1, 0, 0, 0, 0, 0, []),
  (14, 3, .invokevirtual 233, mM_weight, 1, 10, 193, 0, [(0, 1)]),
  (17, 1, .i2l, 0, 0, 0, 0, 0, []),
  (18, 1, .lmul, 0, 0, 0, 0, 0, []),
  (19, 1, .aload_n 0, 0, 0, 0, 0, 0, []),
  (20, 1, .iload_n 1, 0, 0, 0, 0, 0, []),
  (21, 1, .iload_n 2, 0, 0, 0, 0, 0, []),
  (22, 3, .invokevirtual 214, mM_upper, 2, 10, 188, 0, [(0, 2)]),
  (25, 1, .lmul, 0, 0, 0, 0, 0, []),
  (26, 1, .aload_n 0, 0, 0, 0, 0, 0, []),
  (27, 1, .iload_n 2, 0, 0, 0, 0, 0, []),
  (28, 3, .invokevirtual 218, mM_lower, 1, 10, 189, 0, [(0, 2)]),
  (31, 1, .ldiv, 0, 0, 0, 0, 0, []),
  (32, 1, .lreturn, 0, 0, 0, 0, 0, [])]
theorem ckM_costBy : cdM_costBy.all (rowOK mM_costBy) = true := by decide +kernel
def cdM_costBut : List Row := [
  (0, 1, .lconst 0, 0, 0, 0, 0, 0, []),
  (1, 1, .lstore_n 2, 0, 0, 0, 0, 0, []),
  (2, 1, .iconst 0, 0, 0, 0, 0, 0, []),
  (3, 2, .istore 4, 0, 0, 0, 0, 0, []),
  (5, 2, .iload 4, 0, 0, 0, 0, 0, []),
  (7, 1, .aload_n 0, 0, 0, 0, 0, 0, []),
  (8, 3, .invokevirtual 221, mM_cells, 0, 10, 190, 0, [(0, 1)]),
  (11, 3, .if_icmp .ge 25, 36, 0, 0, 0, 0, []),
  (14, 1, .lload_n 2, 0, 0, 0, 0, 0, []),
  (15, 1, .aload_n 0, 0, 0, 0, 0, 0, []),
  (16, 2, .iload 4, 0, 0, 0, 0, 0, []),
  (18, 1, .aload_n 0, 0, 0, 0, 0, 0, []),
  (19, 2, .iload 4, 0, 0, 0, 0, 0, []),
  (21, 1, .iload_n 1, 0, 0, 0, 0, 0, []),
  (22, 3, .invokevirtual 224, mM_ownerBut, 2, 10, 191, 0, [(0, 1)]),
  (25, 3, .invokevirtual 236, mM_costBy, 2, 10, 194, 0, [(0, 2)]),
  (28, 1, .ladd, 0, 0, 0, 0, 0, []),
  (29, 1, .lstore_n 2, 0, 0, 0, 0, 0, []),
  (30, 3, .iinc 4 1, 0, 0, 0, 0, 1, []),
  (33, 3, .goto (-28), 5, 0, 0, 0, 0, []),
  (36, 1, .lload_n 2, 0, 0, 0, 0, 0, []),
  (37, 1, .lreturn, 0, 0, 0, 0, 0, [])]
theorem ckM_costBut : cdM_costBut.all (rowOK mM_costBut) = true := by decide +kernel
def cdM_allCost : List Row := [
  (0, 1, .aload_n 0, 0, 0, 0, 0, 0, []),
  (1, 1, .iconst (-1), 0, 0, 0, 0, (-1), []),
  (2, 3, .invokevirtual 239, mM_costBut, 1, 10, 195, 0, [(0, 2)]),
  (5, 1, .l2i, 0, 0, 0, 0, 0, []),
  (6, 1, .ireturn, 0, 0, 0, 0, 0, [])]
theorem ckM_allCost : cdM_allCost.all (rowOK mM_allCost) = true := by decide +kernel
def cdM_laysLoads : List Row := [
  (0, 1, .aload_n 0, 0, 0, 0, 0, 0, []),
  (1, 3, .invokevirtual 242, mM_laysOwners, 0, 10, 196, 0, [(0, 0)]),
  (4, 1, .iconst 0, 0, 0, 0, 0, 0, []),
  (5, 1, .istore_n 1, 0, 0, 0, 0, 0, []),
  (6, 1, .iload_n 1, 0, 0, 0, 0, 0, []),
  (7, 1, .aload_n 0, 0, 0, 0, 0, 0, []),
  (8, 3, .invokevirtual 195, mM_dots, 0, 10, 182, 0, [(0, 1)]),
  (11, 3, .if_icmp .ge 16, 27, 0, 0, 0, 0, []),
  (14, 1, .aload_n 0, 0, 0, 0, 0, 0, []),
  (15, 3, .getfield 32, 10, 20, 2, 129, 0, []),
  (18, 1, .iload_n 1, 0, 0, 0, 0, 0, []),
  (19, 1, .iconst 0, 0, 0, 0, 0, 0, []),
  (20, 1, .iastore, 0, 0, 0, 0, 0, []),
  (21, 3, .iinc 1 1, 0, 0, 0, 0, 1, []),
  (24, 3, .goto (-18), 6, 0, 0, 0, 0, []),
  (27, 1, .iconst 0, 0, 0, 0, 0, 0, []),
  (28, 1, .istore_n 1, 0, 0, 0, 0, 0, []),
  (29, 1, .iload_n 1, 0, 0, 0, 0, 0, []),
  (30, 1, .aload_n 0, 0, 0, 0, 0, 0, []),
  (31, 3, .invokevirtual 221, mM_cells, 0, 10, 190, 0, [(0, 1)]),
  (34, 3, .if_icmp .ge 35, 69, 0, 0, 0, 0, []),
  (37, 1, .aload_n 0, 0, 0, 0, 0, 0, []),
  (38, 3, .invokevirtual 195, mM_dots, 0, 10, 182, 0, [(0, 1)]),
  (41, 3, .ifCond .le 28, 69, 0, 0, 0, 0, []),
  (44, 1, .aload_n 0, 0, 0, 0, 0, 0, []),
  (45, 3, .getfield 32, 10, 20, 2, 129, 0, []),
  (48, 1, .aload_n 0, 0, 0, 0, 0, 0, []),
  (49, 3, .getfield 29, 10, 19, 2, 128, 0, []),
  (52, 1, .iload_n 1, 0, 0, 0, 0, 0, []),
  (53, 1, .iaload, 0, 0, 0, 0, 0, []),
  (54, 1, .dup2, 0, 0, 0, 0, 0, []),
  (55, 1, .iaload, 0, 0, 0, 0, 0, []),
  (56, 1, .aload_n 0, 0, 0, 0, 0, 0, []),
  (57, 1, .iload_n 1, 0, 0, 0, 0, 0, []),
  (58, 3, .invokevirtual 233, mM_weight, 1, 10, 193, 0, [(0, 1)]),
  (61, 1, .iadd, 0, 0, 0, 0, 0, []),
  (62, 1, .iastore, 0, 0, 0, 0, 0, []),
  (63, 3, .iinc 1 1, 0, 0, 0, 0, 1, []),
  (66, 3, .goto (-37), 29, 0, 0, 0, 0, []),
  (69, 1, .return_, 0, 0, 0, 0, 0, [])]
theorem ckM_laysLoads : cdM_laysLoads.all (rowOK mM_laysLoads) = true := by decide +kernel
def cdM_liesAt : List Row := [
  (0, 1, .aload_n 0, 0, 0, 0, 0, 0, []),
  (1, 1, .iload_n 1, 0, 0, 0, 0, 0, []),
  (2, 3, .invokevirtual 208, mM_xOf, 1, 10, 186, 0, [(0, 1)]),
  (5, 1, .i2l, 0, 0, 0, 0, 0, []),
  (6, 1, .iload_n 2, 0, 0, 0, 0, 0, []),
  (7, 1, .i2l, 0, 0, 0, 0, 0, []),
  (8, 1, .aload_n 0, 0, 0, 0, 0, 0, []),
  (9, 1, .iload_n 1, 0, 0, 0, 0, 0, []),
  (10, 3, .invokevirtual 204, mM_under, 1, 10, 185, 0, [(0, 2)]),
  (13, 1, .lmul, 0, 0, 0, 0, 0, []),
  (14, 1, .lcmp, 0, 0, 0, 0, 0, []),
  (15, 3, .ifCond .ne 25, 40, 0, 0, 0, 0, []),
  (18, 1, .aload_n 0, 0, 0, 0, 0, 0, []),
  (19, 1, .iload_n 1, 0, 0, 0, 0, 0, []),
  (20, 3, .invokevirtual 211, mM_yOf, 1, 10, 187, 0, [(0, 1)]),
  (23, 1, .i2l, 0, 0, 0, 0, 0, []),
  (24, 1, .iload_n 3, 0, 0, 0, 0, 0, []),
  (25, 1, .i2l, 0, 0, 0, 0, 0, []),
  (26, 1, .aload_n 0, 0, 0, 0, 0, 0, []),
  (27, 1, .iload_n 1, 0, 0, 0, 0, 0, []),
  (28, 3, .invokevirtual 204, mM_under, 1, 10, 185, 0, [(0, 2)]),
  (31, 1, .lmul, 0, 0, 0, 0, 0, []),
  (32, 1, .lcmp, 0, 0, 0, 0, 0, []),
  (33, 3, .ifCond .ne 7, 40, 0, 0, 0, 0, []),
  (36, 1, .iconst 1, 0, 0, 0, 0, 1, []),
  (37, 3, .goto 4, 41, 0, 0, 0, 0, []),
  (40, 1, .iconst 0, 0, 0, 0, 0, 0, []),
  (41, 1, .ireturn, 0, 0, 1, 0, 0, [])]
theorem ckM_liesAt : cdM_liesAt.all (rowOK mM_liesAt) = true := by decide +kernel
def cdM_allWeights : List Row := [
  (0, 1, .iconst 0, 0, 0, 0, 0, 0, []),
  (1, 1, .istore_n 1, 0, 0, 0, 0, 0, []),
  (2, 1, .iconst 0, 0, 0, 0, 0, 0, []),
  (3, 1, .istore_n 2, 0, 0, 0, 0, 0, []),
  (4, 1, .iload_n 2, 0, 0, 0, 0, 0, []),
  (5, 1, .aload_n 0, 0, 0, 0, 0, 0, []),
  (6, 3, .invokevirtual 221, mM_cells, 0, 10, 190, 0, [(0, 1)]),
  (9, 3, .if_icmp .ge 17, 26, 0, 0, 0, 0, []),
  (12, 1, .iload_n 1, 0, 0, 0, 0, 0, []),
  (13, 1, .aload_n 0, 0, 0, 0, 0, 0, []),
  (14, 1, .iload_n 2, 0, 0, 0, 0, 0, []),
  (15, 3, .invokevirtual 233, mM_weight, 1, 10, 193, 0, [(0, 1)]),
  (18, 1, .iadd, 0, 0, 0, 0, 0, []),
  (19, 1, .istore_n 1, 0, 0, 0, 0, 0, []),
  (20, 3, .iinc 2 1, 0, 0, 0, 0, 1, []),
  (23, 3, .goto (-19), 4, 0, 0, 0, 0, []),
  (26, 1, .iload_n 1, 0, 0, 0, 0, 0, []),
  (27, 1, .ireturn, 0, 0, 0, 0, 0, [])]
theorem ckM_allWeights : cdM_allWeights.all (rowOK mM_allWeights) = true := by decide +kernel
def cdM_comes : List Row := [
  (0, 1, .aload_n 0, 0, 0, 0, 0, 0, []),
  (1, 1, .aload_n 0, 0, 0, 0, 0, 0, []),
  (2, 3, .invokevirtual 195, mM_dots, 0, 10, 182, 0, [(0, 1)]),
  (5, 1, .iload_n 1, 0, 0, 0, 0, 0, []),
  (6, 1, .iload_n 2, 0, 0, 0, 0, 0, []),
  (7, 1, .iconst 1, 0, 0, 0, 0, 1, []),
  (8, 3, .invokevirtual 245, mM_lays, 4, 10, 197, 0, [(0, 0)]),
  (11, 1, .aload_n 0, 0, 0, 0, 0, 0, []),
  (12, 3, .getfield 7, 10, 0, 2, 122, 0, []),
  (15, 1, .iconst 3, 0, 0, 0, 0, 3, []),
  (16, 1, .dup2, 0, 0, 0, 0, 0, []),
  (17, 1, .iaload, 0, 0, 0, 0, 0, []),
  (18, 1, .iconst 1, 0, 0, 0, 0, 1, []),
  (19, 1, .iadd, 0, 0, 0, 0, 0, []),
  (20, 1, .iastore, 0, 0, 0, 0, 0, []),
  (21, 1, .return_, 0, 0, 0, 0, 0, [])]
theorem ckM_comes : cdM_comes.all (rowOK mM_comes) = true := by decide +kernel
def cdM_put : List Row := [
  (0, 1, .aload_n 0, 0, 0, 0, 0, 0, []),
  (1, 1, .iload_n 1, 0, 0, 0, 0, 0, []),
  (2, 1, .iload_n 2, 0, 0, 0, 0, 0, []),
  (3, 3, .invokevirtual 249, mM_isCell, 2, 10, 198, 0, [(0, 1)]),
  (6, 3, .ifCond .eq 12, 18, 0, 0, 0, 0, []),
  (9, 1, .aload_n 0, 0, 0, 0, 0, 0, []),
  (10, 3, .invokevirtual 195, mM_dots, 0, 10, 182, 0, [(0, 1)]),
  (13, 2, .bipush 40, 0, 0, 0, 0, 40, []),
  (15, 3, .if_icmp .ne 5, 20, 0, 0, 0, 0, []),
  (18, 1, .iconst (-1), 0, 0, 0, 0, (-1), []),
  (19, 1, .ireturn, 0, 0, 0, 0, 0, []),
  (20, 1, .aload_n 0, 0, 0, 0, 0, 0, []),
  (21, 3, .invokevirtual 253, mM_otherAct, 0, 10, 199, 0, [(0, 0)]),
  (24, 1, .aload_n 0, 0, 0, 0, 0, 0, []),
  (25, 1, .iload_n 1, 0, 0, 0, 0, 0, []),
  (26, 1, .iload_n 2, 0, 0, 0, 0, 0, []),
  (27, 3, .invokevirtual 256, mM_comes, 2, 10, 200, 0, [(0, 0)]),
  (30, 1, .aload_n 0, 0, 0, 0, 0, 0, []),
  (31, 3, .invokevirtual 195, mM_dots, 0, 10, 182, 0, [(0, 1)]),
  (34, 1, .iconst 1, 0, 0, 0, 0, 1, []),
  (35, 1, .isub, 0, 0, 0, 0, 0, []),
  (36, 1, .ireturn, 0, 0, 0, 0, 0, [])]
theorem ckM_put : cdM_put.all (rowOK mM_put) = true := by decide +kernel
def cdM_goes : List Row := [
  (0, 3, .sipush 404, 0, 0, 0, 0, 404, []),
  (3, 1, .iconst 3, 0, 0, 0, 0, 3, []),
  (4, 1, .iload_n 1, 0, 0, 0, 0, 0, []),
  (5, 1, .imul, 0, 0, 0, 0, 0, []),
  (6, 1, .iadd, 0, 0, 0, 0, 0, []),
  (7, 1, .istore_n 2, 0, 0, 0, 0, 0, []),
  (8, 1, .iload_n 2, 0, 0, 0, 0, 0, []),
  (9, 3, .sipush 404, 0, 0, 0, 0, 404, []),
  (12, 1, .iconst 3, 0, 0, 0, 0, 3, []),
  (13, 1, .aload_n 0, 0, 0, 0, 0, 0, []),
  (14, 3, .invokevirtual 195, mM_dots, 0, 10, 182, 0, [(0, 1)]),
  (17, 1, .imul, 0, 0, 0, 0, 0, []),
  (18, 1, .iadd, 0, 0, 0, 0, 0, []),
  (19, 1, .iconst 3, 0, 0, 0, 0, 3, []),
  (20, 1, .isub, 0, 0, 0, 0, 0, []),
  (21, 3, .if_icmp .ge 23, 44, 0, 0, 0, 0, []),
  (24, 1, .aload_n 0, 0, 0, 0, 0, 0, []),
  (25, 3, .getfield 7, 10, 0, 2, 122, 0, []),
  (28, 1, .iload_n 2, 0, 0, 0, 0, 0, []),
  (29, 1, .aload_n 0, 0, 0, 0, 0, 0, []),
  (30, 3, .getfield 7, 10, 0, 2, 122, 0, []),
  (33, 1, .iload_n 2, 0, 0, 0, 0, 0, []),
  (34, 1, .iconst 3, 0, 0, 0, 0, 3, []),
  (35, 1, .iadd, 0, 0, 0, 0, 0, []),
  (36, 1, .iaload, 0, 0, 0, 0, 0, []),
  (37, 1, .iastore, 0, 0, 0, 0, 0, []),
  (38, 3, .iinc 2 1, 0, 0, 0, 0, 1, []),
  (41, 3, .goto (-33), 8, 0, 0, 0, 0, []),
  (44, 1, .aload_n 0, 0, 0, 0, 0, 0, []),
  (45, 3, .getfield 7, 10, 0, 2, 122, 0, []),
  (48, 1, .iconst 3, 0, 0, 0, 0, 3, []),
  (49, 1, .dup2, 0, 0, 0, 0, 0, []),
  (50, 1, .iaload, 0, 0, 0, 0, 0, []),
  (51, 1, .iconst 1, 0, 0, 0, 0, 1, []),
  (52, 1, .isub, 0, 0, 0, 0, 0, []),
  (53, 1, .iastore, 0, 0, 0, 0, 0, []),
  (54, 1, .iconst 0, 0, 0, 0, 0, 0, []),
  (55, 1, .istore_n 2, 0, 0, 0, 0, 0, []),
  (56, 1, .iload_n 2, 0, 0, 0, 0, 0, []),
  (57, 1, .iconst 3, 0, 0, 0, 0, 3, []),
  (58, 3, .if_icmp .ge 27, 85, 0, 0, 0, 0, []),
  (61, 1, .aload_n 0, 0, 0, 0, 0, 0, []),
  (62, 3, .getfield 7, 10, 0, 2, 122, 0, []),
  (65, 3, .sipush 404, 0, 0, 0, 0, 404, []),
  (68, 1, .iconst 3, 0, 0, 0, 0, 3, []),
  (69, 1, .aload_n 0, 0, 0, 0, 0, 0, []),
  (70, 3, .invokevirtual 195, mM_dots, 0, 10, 182, 0, [(0, 1)]),
  (73, 1, .imul, 0, 0, 0, 0, 0, []),
  (74, 1, .iadd, 0, 0, 0, 0, 0, []),
  (75, 1, .iload_n 2, 0, 0, 0, 0, 0, []),
  (76, 1, .iadd, 0, 0, 0, 0, 0, []),
  (77, 1, .iconst 0, 0, 0, 0, 0, 0, []),
  (78, 1, .iastore, 0, 0, 0, 0, 0, []),
  (79, 3, .iinc 2 1, 0, 0, 0, 0, 1, []),
  (82, 3, .goto (-26), 56, 0, 0, 0, 0, []),
  (85, 1, .return_, 0, 0, 0, 0, 0, [])]
theorem ckM_goes : cdM_goes.all (rowOK mM_goes) = true := by decide +kernel
def cdM_take : List Row := [
  (0, 1, .aload_n 0, 0, 0, 0, 0, 0, []),
  (1, 1, .iload_n 1, 0, 0, 0, 0, 0, []),
  (2, 3, .invokevirtual 260, mM_isDot, 1, 10, 201, 0, [(0, 1)]),
  (5, 3, .ifCond .ne 5, 10, 0, 0, 0, 0, []),
  (8, 1, .iconst (-1), 0, 0, 0, 0, (-1), []),
  (9, 1, .ireturn, 0, 0, 0, 0, 0, []),
  (10, 1, .aload_n 0, 0, 0, 0, 0, 0, []),
  (11, 3, .invokevirtual 253, mM_otherAct, 0, 10, 199, 0, [(0, 0)]),
  (14, 1, .aload_n 0, 0, 0, 0, 0, 0, []),
  (15, 1, .iload_n 1, 0, 0, 0, 0, 0, []),
  (16, 3, .invokevirtual 263, mM_goes, 1, 10, 202, 0, [(0, 0)]),
  (19, 1, .aload_n 0, 0, 0, 0, 0, 0, []),
  (20, 3, .invokevirtual 195, mM_dots, 0, 10, 182, 0, [(0, 1)]),
  (23, 1, .ireturn, 0, 0, 0, 0, 0, [])]
theorem ckM_take : cdM_take.all (rowOK mM_take) = true := by decide +kernel
def cdM_move : List Row := [
  (0, 1, .aload_n 0, 0, 0, 0, 0, 0, []),
  (1, 1, .iload_n 1, 0, 0, 0, 0, 0, []),
  (2, 3, .invokevirtual 260, mM_isDot, 1, 10, 201, 0, [(0, 1)]),
  (5, 3, .ifCond .eq 22, 27, 0, 0, 0, 0, []),
  (8, 1, .aload_n 0, 0, 0, 0, 0, 0, []),
  (9, 1, .iload_n 2, 0, 0, 0, 0, 0, []),
  (10, 1, .iload_n 3, 0, 0, 0, 0, 0, []),
  (11, 3, .invokevirtual 249, mM_isCell, 2, 10, 198, 0, [(0, 1)]),
  (14, 3, .ifCond .eq 13, 27, 0, 0, 0, 0, []),
  (17, 1, .aload_n 0, 0, 0, 0, 0, 0, []),
  (18, 1, .iload_n 1, 0, 0, 0, 0, 0, []),
  (19, 1, .iload_n 2, 0, 0, 0, 0, 0, []),
  (20, 1, .iload_n 3, 0, 0, 0, 0, 0, []),
  (21, 3, .invokevirtual 266, mM_liesAt, 3, 10, 203, 0, [(0, 1)]),
  (24, 3, .ifCond .eq 5, 29, 0, 0, 0, 0, []),
  (27, 1, .iconst 0, 0, 0, 0, 0, 0, []),
  (28, 1, .ireturn, 0, 0, 1, 0, 0, []),
  (29, 1, .aload_n 0, 0, 0, 0, 0, 0, []),
  (30, 3, .invokevirtual 253, mM_otherAct, 0, 10, 199, 0, [(0, 0)]),
  (33, 1, .aload_n 0, 0, 0, 0, 0, 0, []),
  (34, 1, .iload_n 1, 0, 0, 0, 0, 0, []),
  (35, 1, .iload_n 2, 0, 0, 0, 0, 0, []),
  (36, 1, .iload_n 3, 0, 0, 0, 0, 0, []),
  (37, 1, .iconst 1, 0, 0, 0, 0, 1, []),
  (38, 3, .invokevirtual 245, mM_lays, 4, 10, 197, 0, [(0, 0)]),
  (41, 1, .iconst 1, 0, 0, 0, 0, 1, []),
  (42, 1, .ireturn, 0, 0, 1, 0, 0, [])]
theorem ckM_move : cdM_move.all (rowOK mM_move) = true := by decide +kernel
def cdM_isBare : List Row := [
  (0, 1, .iconst 0, 0, 0, 0, 0, 0, []),
  (1, 1, .istore_n 2, 0, 0, 0, 0, 0, []),
  (2, 1, .iload_n 2, 0, 0, 0, 0, 0, []),
  (3, 1, .aload_n 0, 0, 0, 0, 0, 0, []),
  (4, 3, .invokevirtual 195, mM_dots, 0, 10, 182, 0, [(0, 1)]),
  (7, 3, .if_icmp .ge 31, 38, 0, 0, 0, 0, []),
  (10, 1, .aload_n 0, 0, 0, 0, 0, 0, []),
  (11, 1, .iload_n 2, 0, 0, 0, 0, 0, []),
  (12, 1, .iload_n 1, 0, 0, 0, 0, 0, []),
  (13, 1, .aload_n 0, 0, 0, 0, 0, 0, []),
  (14, 3, .invokevirtual 188, mM_wide, 0, 10, 180, 0, [(0, 1)]),
  (17, 1, .irem, 0, 0, 0, 0, 0, []),
  (18, 1, .iload_n 1, 0, 0, 0, 0, 0, []),
  (19, 1, .aload_n 0, 0, 0, 0, 0, 0, []),
  (20, 3, .invokevirtual 188, mM_wide, 0, 10, 180, 0, [(0, 1)]),
  (23, 1, .idiv, 0, 0, 0, 0, 0, []),
  (24, 3, .invokevirtual 266, mM_liesAt, 3, 10, 203, 0, [(0, 1)]),
  (27, 3, .ifCond .eq 5, 32, 0, 0, 0, 0, []),
  (30, 1, .iconst 0, 0, 0, 0, 0, 0, []),
  (31, 1, .ireturn, 0, 0, 1, 0, 0, []),
  (32, 3, .iinc 2 1, 0, 0, 0, 0, 1, []),
  (35, 3, .goto (-33), 2, 0, 0, 0, 0, []),
  (38, 1, .iconst 1, 0, 0, 0, 0, 1, []),
  (39, 1, .ireturn, 0, 0, 1, 0, 0, [])]
theorem ckM_isBare : cdM_isBare.all (rowOK mM_isBare) = true := by decide +kernel
def cdM_drawOf : List Row := [
  (0, 1, .aload_n 0, 0, 0, 0, 0, 0, []),
  (1, 3, .getfield 7, 10, 0, 2, 122, 0, []),
  (4, 1, .iconst 2, 0, 0, 0, 0, 2, []),
  (5, 1, .aload_n 0, 0, 0, 0, 0, 0, []),
  (6, 3, .getfield 7, 10, 0, 2, 122, 0, []),
  (9, 1, .iconst 2, 0, 0, 0, 0, 2, []),
  (10, 1, .iaload, 0, 0, 0, 0, 0, []),
  (11, 1, .i2l, 0, 0, 0, 0, 0, []),
  (12, 3, .ldc2_w 269, 1103515245, 0, 0, 10, 0, []),
  (15, 1, .lmul, 0, 0, 0, 0, 0, []),
  (16, 3, .ldc2_w 271, 12345, 0, 0, 11, 0, []),
  (19, 1, .ladd, 0, 0, 0, 0, 0, []),
  (20, 3, .ldc2_w 273, 2147483648, 0, 0, 12, 0, []),
  (23, 1, .lrem, 0, 0, 0, 0, 0, []),
  (24, 1, .l2i, 0, 0, 0, 0, 0, []),
  (25, 1, .iastore, 0, 0, 0, 0, 0, []),
  (26, 1, .aload_n 0, 0, 0, 0, 0, 0, []),
  (27, 3, .getfield 7, 10, 0, 2, 122, 0, []),
  (30, 1, .iconst 2, 0, 0, 0, 0, 2, []),
  (31, 1, .iaload, 0, 0, 0, 0, 0, []),
  (32, 3, .ldc_w 275, 0, 0, 0, 3, 65536, []),
  (35, 1, .idiv, 0, 0, 0, 0, 0, []),
  (36, 1, .iload_n 1, 0, 0, 0, 0, 0, []),
  (37, 1, .irem, 0, 0, 0, 0, 0, []),
  (38, 1, .ireturn, 0, 0, 0, 0, 0, [])]
theorem ckM_drawOf : cdM_drawOf.all (rowOK mM_drawOf) = true := by decide +kernel
def cdM_drawsOne : List Row := [
  (0, 1, .iconst 0, 0, 0, 0, 0, 0, []),
  (1, 1, .istore_n 1, 0, 0, 0, 0, 0, []),
  (2, 1, .iconst 0, 0, 0, 0, 0, 0, []),
  (3, 1, .istore_n 2, 0, 0, 0, 0, 0, []),
  (4, 1, .iload_n 2, 0, 0, 0, 0, 0, []),
  (5, 1, .aload_n 0, 0, 0, 0, 0, 0, []),
  (6, 3, .invokevirtual 221, mM_cells, 0, 10, 190, 0, [(0, 1)]),
  (9, 3, .if_icmp .ge 29, 38, 0, 0, 0, 0, []),
  (12, 1, .iload_n 1, 0, 0, 0, 0, 0, []),
  (13, 1, .aload_n 0, 0, 0, 0, 0, 0, []),
  (14, 1, .iload_n 2, 0, 0, 0, 0, 0, []),
  (15, 3, .invokevirtual 276, mM_isBare, 1, 10, 204, 0, [(0, 1)]),
  (18, 3, .ifCond .eq 11, 29, 0, 0, 0, 0, []),
  (21, 1, .aload_n 0, 0, 0, 0, 0, 0, []),
  (22, 1, .iload_n 2, 0, 0, 0, 0, 0, []),
  (23, 3, .invokevirtual 233, mM_weight, 1, 10, 193, 0, [(0, 1)]),
  (26, 3, .goto 4, 30, 0, 0, 0, 0, []),
  (29, 1, .iconst 0, 0, 0, 0, 0, 0, []),
  (30, 1, .iadd, 0, 0, 0, 0, 0, []),
  (31, 1, .istore_n 1, 0, 0, 0, 0, 0, []),
  (32, 3, .iinc 2 1, 0, 0, 0, 0, 1, []),
  (35, 3, .goto (-31), 4, 0, 0, 0, 0, []),
  (38, 1, .aload_n 0, 0, 0, 0, 0, 0, []),
  (39, 1, .iload_n 1, 0, 0, 0, 0, 0, []),
  (40, 3, .invokevirtual 279, mM_drawOf, 1, 10, 205, 0, [(0, 1)]),
  (43, 1, .istore_n 2, 0, 0, 0, 0, 0, []),
  (44, 1, .iconst (-1), 0, 0, 0, 0, (-1), []),
  (45, 1, .istore_n 3, 0, 0, 0, 0, 0, []),
  (46, 1, .iload_n 2, 0, 0, 0, 0, 0, []),
  (47, 3, .ifCond .lt 29, 76, 0, 0, 0, 0, []),
  (50, 3, .iinc 3 1, 0, 0, 0, 0, 1, []),
  (53, 1, .iload_n 2, 0, 0, 0, 0, 0, []),
  (54, 1, .aload_n 0, 0, 0, 0, 0, 0, []),
  (55, 1, .iload_n 3, 0, 0, 0, 0, 0, []),
  (56, 3, .invokevirtual 276, mM_isBare, 1, 10, 204, 0, [(0, 1)]),
  (59, 3, .ifCond .eq 11, 70, 0, 0, 0, 0, []),
  (62, 1, .aload_n 0, 0, 0, 0, 0, 0, []),
  (63, 1, .iload_n 3, 0, 0, 0, 0, 0, []),
  (64, 3, .invokevirtual 233, mM_weight, 1, 10, 193, 0, [(0, 1)]),
  (67, 3, .goto 4, 71, 0, 0, 0, 0, []),
  (70, 1, .iconst 0, 0, 0, 0, 0, 0, []),
  (71, 1, .isub, 0, 0, 0, 0, 0, []),
  (72, 1, .istore_n 2, 0, 0, 0, 0, 0, []),
  (73, 3, .goto (-27), 46, 0, 0, 0, 0, []),
  (76, 1, .aload_n 0, 0, 0, 0, 0, 0, []),
  (77, 1, .iload_n 3, 0, 0, 0, 0, 0, []),
  (78, 1, .aload_n 0, 0, 0, 0, 0, 0, []),
  (79, 3, .invokevirtual 188, mM_wide, 0, 10, 180, 0, [(0, 1)]),
  (82, 1, .irem, 0, 0, 0, 0, 0, []),
  (83, 1, .iload_n 3, 0, 0, 0, 0, 0, []),
  (84, 1, .aload_n 0, 0, 0, 0, 0, 0, []),
  (85, 3, .invokevirtual 188, mM_wide, 0, 10, 180, 0, [(0, 1)]),
  (88, 1, .idiv, 0, 0, 0, 0, 0, []),
  (89, 3, .invokevirtual 256, mM_comes, 2, 10, 200, 0, [(0, 0)]),
  (92, 1, .return_, 0, 0, 0, 0, 0, [])]
theorem ckM_drawsOne : cdM_drawsOne.all (rowOK mM_drawsOne) = true := by decide +kernel
def cdM_draw : List Row := [
  (0, 1, .iload_n 1, 0, 0, 0, 0, 0, []),
  (1, 1, .i2l, 0, 0, 0, 0, 0, []),
  (2, 1, .lconst 1, 1, 0, 0, 0, 0, []),
  (3, 3, .ldc2_w 282, 40, 0, 0, 13, 0, []),
  (6, 3, .invokestatic 94, mM_isIn, 3, 0, 166, 0, [(0, 1)]),
  (9, 3, .ifCond .eq 14, 23, 0, 0, 0, 0, []),
  (12, 1, .aload_n 0, 0, 0, 0, 0, 0, []),
  (13, 3, .invokevirtual 195, mM_dots, 0, 10, 182, 0, [(0, 1)]),
  (16, 1, .iload_n 1, 0, 0, 0, 0, 0, []),
  (17, 1, .iadd, 0, 0, 0, 0, 0, []),
  (18, 2, .bipush 40, 0, 0, 0, 0, 40, []),
  (20, 3, .if_icmp .le 5, 25, 0, 0, 0, 0, []),
  (23, 1, .iconst (-1), 0, 0, 0, 0, (-1), []),
  (24, 1, .ireturn, 0, 0, 0, 0, 0, []),
  (25, 1, .iconst 0, 0, 0, 0, 0, 0, []),
  (26, 1, .istore_n 2, 0, 0, 0, 0, 0, []),
  (27, 1, .iconst 0, 0, 0, 0, 0, 0, []),
  (28, 1, .istore_n 3, 0, 0, 0, 0, 0, []),
  (29, 1, .iload_n 3, 0, 0, 0, 0, 0, []),
  (30, 1, .aload_n 0, 0, 0, 0, 0, 0, []),
  (31, 3, .invokevirtual 221, mM_cells, 0, 10, 190, 0, [(0, 1)]),
  (34, 3, .if_icmp .ge 36, 70, 0, 0, 0, 0, []),
  (37, 1, .iload_n 2, 0, 0, 0, 0, 0, []),
  (38, 1, .aload_n 0, 0, 0, 0, 0, 0, []),
  (39, 1, .iload_n 3, 0, 0, 0, 0, 0, []),
  (40, 3, .invokevirtual 233, mM_weight, 1, 10, 193, 0, [(0, 1)]),
  (43, 3, .ifCond .le 15, 58, 0, 0, 0, 0, []),
  (46, 1, .aload_n 0, 0, 0, 0, 0, 0, []),
  (47, 1, .iload_n 3, 0, 0, 0, 0, 0, []),
  (48, 3, .invokevirtual 276, mM_isBare, 1, 10, 204, 0, [(0, 1)]),
  (51, 3, .ifCond .eq 7, 58, 0, 0, 0, 0, []),
  (54, 1, .iconst 1, 0, 0, 0, 0, 1, []),
  (55, 3, .goto 4, 59, 0, 0, 0, 0, []),
  (58, 1, .iconst 0, 0, 0, 0, 0, 0, []),
  (59, 3, .invokestatic 284, mM_truth, 1, 0, 206, 0, [(0, 1)]),
  (62, 1, .iadd, 0, 0, 0, 0, 0, []),
  (63, 1, .istore_n 2, 0, 0, 0, 0, 0, []),
  (64, 3, .iinc 3 1, 0, 0, 0, 0, 1, []),
  (67, 3, .goto (-38), 29, 0, 0, 0, 0, []),
  (70, 1, .iload_n 2, 0, 0, 0, 0, 0, []),
  (71, 1, .iload_n 1, 0, 0, 0, 0, 0, []),
  (72, 3, .if_icmp .ge 5, 77, 0, 0, 0, 0, []),
  (75, 1, .iconst (-1), 0, 0, 0, 0, (-1), []),
  (76, 1, .ireturn, 0, 0, 0, 0, 0, []),
  (77, 1, .aload_n 0, 0, 0, 0, 0, 0, []),
  (78, 3, .invokevirtual 253, mM_otherAct, 0, 10, 199, 0, [(0, 0)]),
  (81, 1, .iconst 0, 0, 0, 0, 0, 0, []),
  (82, 1, .istore_n 3, 0, 0, 0, 0, 0, []),
  (83, 1, .iload_n 3, 0, 0, 0, 0, 0, []),
  (84, 1, .iload_n 1, 0, 0, 0, 0, 0, []),
  (85, 3, .if_icmp .ge 13, 98, 0, 0, 0, 0, []),
  (88, 1, .aload_n 0, 0, 0, 0, 0, 0, []),
  (89, 3, .invokevirtual 288, mM_drawsOne, 0, 10, 207, 0, [(0, 0)]),
  (92, 3, .iinc 3 1, 0, 0, 0, 0, 1, []),
  (95, 3, .goto (-12), 83, 0, 0, 0, 0, []),
  (98, 1, .aload_n 0, 0, 0, 0, 0, 0, []),
  (99, 3, .invokevirtual 195, mM_dots, 0, 10, 182, 0, [(0, 1)]),
  (102, 1, .ireturn, 0, 0, 0, 0, 0, [])]
theorem ckM_draw : cdM_draw.all (rowOK mM_draw) = true := by decide +kernel
def cdM_seed : List Row := [
  (0, 1, .iload_n 1, 0, 0, 0, 0, 0, []),
  (1, 3, .ifCond .ge 5, 6, 0, 0, 0, 0, []),
  (4, 1, .iconst (-1), 0, 0, 0, 0, (-1), []),
  (5, 1, .ireturn, 0, 0, 0, 0, 0, []),
  (6, 1, .aload_n 0, 0, 0, 0, 0, 0, []),
  (7, 3, .getfield 7, 10, 0, 2, 122, 0, []),
  (10, 1, .iconst 2, 0, 0, 0, 0, 2, []),
  (11, 1, .iaload, 0, 0, 0, 0, 0, []),
  (12, 1, .istore_n 2, 0, 0, 0, 0, 0, []),
  (13, 1, .aload_n 0, 0, 0, 0, 0, 0, []),
  (14, 3, .getfield 7, 10, 0, 2, 122, 0, []),
  (17, 1, .iconst 2, 0, 0, 0, 0, 2, []),
  (18, 1, .iload_n 1, 0, 0, 0, 0, 0, []),
  (19, 1, .iastore, 0, 0, 0, 0, 0, []),
  (20, 1, .iload_n 2, 0, 0, 0, 0, 0, []),
  (21, 1, .ireturn, 0, 0, 0, 0, 0, [])]
theorem ckM_seed : cdM_seed.all (rowOK mM_seed) = true := by decide +kernel
def cdM_paint : List Row := [
  (0, 1, .aload_n 0, 0, 0, 0, 0, 0, []),
  (1, 1, .iload_n 1, 0, 0, 0, 0, 0, []),
  (2, 1, .iload_n 2, 0, 0, 0, 0, 0, []),
  (3, 3, .invokevirtual 249, mM_isCell, 2, 10, 198, 0, [(0, 1)]),
  (6, 3, .ifCond .eq 29, 35, 0, 0, 0, 0, []),
  (9, 1, .iload_n 3, 0, 0, 0, 0, 0, []),
  (10, 1, .i2l, 0, 0, 0, 0, 0, []),
  (11, 1, .lconst 0, 0, 0, 0, 0, 0, []),
  (12, 3, .ldc2_w 291, 9, 0, 0, 14, 0, []),
  (15, 3, .invokestatic 94, mM_isIn, 3, 0, 166, 0, [(0, 1)]),
  (18, 3, .ifCond .eq 17, 35, 0, 0, 0, 0, []),
  (21, 1, .aload_n 0, 0, 0, 0, 0, 0, []),
  (22, 1, .aload_n 0, 0, 0, 0, 0, 0, []),
  (23, 1, .iload_n 1, 0, 0, 0, 0, 0, []),
  (24, 1, .iload_n 2, 0, 0, 0, 0, 0, []),
  (25, 3, .invokevirtual 293, mM_numberOf, 2, 10, 208, 0, [(0, 1)]),
  (28, 3, .invokevirtual 233, mM_weight, 1, 10, 193, 0, [(0, 1)]),
  (31, 1, .iload_n 3, 0, 0, 0, 0, 0, []),
  (32, 3, .if_icmp .ne 5, 37, 0, 0, 0, 0, []),
  (35, 1, .iconst (-1), 0, 0, 0, 0, (-1), []),
  (36, 1, .ireturn, 0, 0, 0, 0, 0, []),
  (37, 1, .aload_n 0, 0, 0, 0, 0, 0, []),
  (38, 1, .aload_n 0, 0, 0, 0, 0, 0, []),
  (39, 1, .iload_n 1, 0, 0, 0, 0, 0, []),
  (40, 1, .iload_n 2, 0, 0, 0, 0, 0, []),
  (41, 3, .invokevirtual 293, mM_numberOf, 2, 10, 208, 0, [(0, 1)]),
  (44, 3, .invokevirtual 233, mM_weight, 1, 10, 193, 0, [(0, 1)]),
  (47, 2, .istore 4, 0, 0, 0, 0, 0, []),
  (49, 1, .aload_n 0, 0, 0, 0, 0, 0, []),
  (50, 3, .invokevirtual 253, mM_otherAct, 0, 10, 199, 0, [(0, 0)]),
  (53, 1, .aload_n 0, 0, 0, 0, 0, 0, []),
  (54, 3, .getfield 7, 10, 0, 2, 122, 0, []),
  (57, 1, .iconst 4, 0, 0, 0, 0, 4, []),
  (58, 1, .aload_n 0, 0, 0, 0, 0, 0, []),
  (59, 1, .iload_n 1, 0, 0, 0, 0, 0, []),
  (60, 1, .iload_n 2, 0, 0, 0, 0, 0, []),
  (61, 3, .invokevirtual 293, mM_numberOf, 2, 10, 208, 0, [(0, 1)]),
  (64, 1, .iadd, 0, 0, 0, 0, 0, []),
  (65, 1, .iload_n 3, 0, 0, 0, 0, 0, []),
  (66, 1, .iastore, 0, 0, 0, 0, 0, []),
  (67, 2, .iload 4, 0, 0, 0, 0, 0, []),
  (69, 1, .ireturn, 0, 0, 0, 0, 0, [])]
theorem ckM_paint : cdM_paint.all (rowOK mM_paint) = true := by decide +kernel
def cdM_turn : List Row := [
  (0, 1, .aload_n 0, 0, 0, 0, 0, 0, []),
  (1, 3, .invokevirtual 253, mM_otherAct, 0, 10, 199, 0, [(0, 0)]),
  (4, 1, .iconst 0, 0, 0, 0, 0, 0, []),
  (5, 1, .istore_n 1, 0, 0, 0, 0, 0, []),
  (6, 1, .iload_n 1, 0, 0, 0, 0, 0, []),
  (7, 3, .sipush 524, 0, 0, 0, 0, 524, []),
  (10, 3, .if_icmp .ge 21, 31, 0, 0, 0, 0, []),
  (13, 1, .aload_n 0, 0, 0, 0, 0, 0, []),
  (14, 3, .getfield 35, 10, 21, 2, 130, 0, []),
  (17, 1, .iload_n 1, 0, 0, 0, 0, 0, []),
  (18, 1, .aload_n 0, 0, 0, 0, 0, 0, []),
  (19, 3, .getfield 7, 10, 0, 2, 122, 0, []),
  (22, 1, .iload_n 1, 0, 0, 0, 0, 0, []),
  (23, 1, .iaload, 0, 0, 0, 0, 0, []),
  (24, 1, .iastore, 0, 0, 0, 0, 0, []),
  (25, 3, .iinc 1 1, 0, 0, 0, 0, 1, []),
  (28, 3, .goto (-22), 6, 0, 0, 0, 0, []),
  (31, 1, .aload_n 0, 0, 0, 0, 0, 0, []),
  (32, 3, .invokevirtual 188, mM_wide, 0, 10, 180, 0, [(0, 1)]),
  (35, 1, .istore_n 1, 0, 0, 0, 0, 0, []),
  (36, 1, .aload_n 0, 0, 0, 0, 0, 0, []),
  (37, 3, .invokevirtual 192, mM_high, 0, 10, 181, 0, [(0, 1)]),
  (40, 1, .istore_n 2, 0, 0, 0, 0, 0, []),
  (41, 1, .aload_n 0, 0, 0, 0, 0, 0, []),
  (42, 3, .getfield 7, 10, 0, 2, 122, 0, []),
  (45, 1, .iconst 0, 0, 0, 0, 0, 0, []),
  (46, 1, .iload_n 2, 0, 0, 0, 0, 0, []),
  (47, 1, .iastore, 0, 0, 0, 0, 0, []),
  (48, 1, .aload_n 0, 0, 0, 0, 0, 0, []),
  (49, 3, .getfield 7, 10, 0, 2, 122, 0, []),
  (52, 1, .iconst 1, 0, 0, 0, 0, 1, []),
  (53, 1, .iload_n 1, 0, 0, 0, 0, 0, []),
  (54, 1, .iastore, 0, 0, 0, 0, 0, []),
  (55, 1, .iconst 0, 0, 0, 0, 0, 0, []),
  (56, 1, .istore_n 3, 0, 0, 0, 0, 0, []),
  (57, 1, .iload_n 3, 0, 0, 0, 0, 0, []),
  (58, 1, .iload_n 1, 0, 0, 0, 0, 0, []),
  (59, 1, .iload_n 2, 0, 0, 0, 0, 0, []),
  (60, 1, .imul, 0, 0, 0, 0, 0, []),
  (61, 3, .if_icmp .ge 37, 98, 0, 0, 0, 0, []),
  (64, 1, .aload_n 0, 0, 0, 0, 0, 0, []),
  (65, 3, .getfield 7, 10, 0, 2, 122, 0, []),
  (68, 1, .iconst 4, 0, 0, 0, 0, 4, []),
  (69, 1, .iload_n 2, 0, 0, 0, 0, 0, []),
  (70, 1, .iload_n 3, 0, 0, 0, 0, 0, []),
  (71, 1, .iload_n 1, 0, 0, 0, 0, 0, []),
  (72, 1, .irem, 0, 0, 0, 0, 0, []),
  (73, 1, .imul, 0, 0, 0, 0, 0, []),
  (74, 1, .iadd, 0, 0, 0, 0, 0, []),
  (75, 1, .iload_n 2, 0, 0, 0, 0, 0, []),
  (76, 1, .iadd, 0, 0, 0, 0, 0, []),
  (77, 1, .iconst 1, 0, 0, 0, 0, 1, []),
  (78, 1, .isub, 0, 0, 0, 0, 0, []),
  (79, 1, .iload_n 3, 0, 0, 0, 0, 0, []),
  (80, 1, .iload_n 1, 0, 0, 0, 0, 0, []),
  (81, 1, .idiv, 0, 0, 0, 0, 0, []),
  (82, 1, .isub, 0, 0, 0, 0, 0, []),
  (83, 1, .aload_n 0, 0, 0, 0, 0, 0, []),
  (84, 3, .getfield 35, 10, 21, 2, 130, 0, []),
  (87, 1, .iconst 4, 0, 0, 0, 0, 4, []),
  (88, 1, .iload_n 3, 0, 0, 0, 0, 0, []),
  (89, 1, .iadd, 0, 0, 0, 0, 0, []),
  (90, 1, .iaload, 0, 0, 0, 0, 0, []),
  (91, 1, .iastore, 0, 0, 0, 0, 0, []),
  (92, 3, .iinc 3 1, 0, 0, 0, 0, 1, []),
  (95, 3, .goto (-38), 57, 0, 0, 0, 0, []),
  (98, 1, .iconst 0, 0, 0, 0, 0, 0, []),
  (99, 1, .istore_n 3, 0, 0, 0, 0, 0, []),
  (100, 1, .iload_n 3, 0, 0, 0, 0, 0, []),
  (101, 1, .aload_n 0, 0, 0, 0, 0, 0, []),
  (102, 3, .invokevirtual 195, mM_dots, 0, 10, 182, 0, [(0, 1)]),
  (105, 3, .if_icmp .ge 65, 170, 0, 0, 0, 0, []),
  (108, 1, .aload_n 0, 0, 0, 0, 0, 0, []),
  (109, 3, .getfield 35, 10, 21, 2, 130, 0, []),
  (112, 3, .sipush 404, 0, 0, 0, 0, 404, []),
  (115, 1, .iconst 3, 0, 0, 0, 0, 3, []),
  (116, 1, .iload_n 3, 0, 0, 0, 0, 0, []),
  (117, 1, .imul, 0, 0, 0, 0, 0, []),
  (118, 1, .iadd, 0, 0, 0, 0, 0, []),
  (119, 1, .iconst 2, 0, 0, 0, 0, 2, []),
  (120, 1, .iadd, 0, 0, 0, 0, 0, []),
  (121, 1, .iaload, 0, 0, 0, 0, 0, []),
  (122, 2, .istore 4, 0, 0, 0, 0, 0, []),
  (124, 1, .aload_n 0, 0, 0, 0, 0, 0, []),
  (125, 1, .iload_n 3, 0, 0, 0, 0, 0, []),
  (126, 1, .iload_n 2, 0, 0, 0, 0, 0, []),
  (127, 1, .iconst 1, 0, 0, 0, 0, 1, []),
  (128, 1, .isub, 0, 0, 0, 0, 0, []),
  (129, 2, .iload 4, 0, 0, 0, 0, 0, []),
  (131, 1, .imul, 0, 0, 0, 0, 0, []),
  (132, 1, .aload_n 0, 0, 0, 0, 0, 0, []),
  (133, 3, .getfield 35, 10, 21, 2, 130, 0, []),
  (136, 3, .sipush 404, 0, 0, 0, 0, 404, []),
  (139, 1, .iconst 3, 0, 0, 0, 0, 3, []),
  (140, 1, .iload_n 3, 0, 0, 0, 0, 0, []),
  (141, 1, .imul, 0, 0, 0, 0, 0, []),
  (142, 1, .iadd, 0, 0, 0, 0, 0, []),
  (143, 1, .iconst 1, 0, 0, 0, 0, 1, []),
  (144, 1, .iadd, 0, 0, 0, 0, 0, []),
  (145, 1, .iaload, 0, 0, 0, 0, 0, []),
  (146, 1, .isub, 0, 0, 0, 0, 0, []),
  (147, 1, .aload_n 0, 0, 0, 0, 0, 0, []),
  (148, 3, .getfield 35, 10, 21, 2, 130, 0, []),
  (151, 3, .sipush 404, 0, 0, 0, 0, 404, []),
  (154, 1, .iconst 3, 0, 0, 0, 0, 3, []),
  (155, 1, .iload_n 3, 0, 0, 0, 0, 0, []),
  (156, 1, .imul, 0, 0, 0, 0, 0, []),
  (157, 1, .iadd, 0, 0, 0, 0, 0, []),
  (158, 1, .iaload, 0, 0, 0, 0, 0, []),
  (159, 2, .iload 4, 0, 0, 0, 0, 0, []),
  (161, 3, .invokevirtual 245, mM_lays, 4, 10, 197, 0, [(0, 0)]),
  (164, 3, .iinc 3 1, 0, 0, 0, 0, 1, []),
  (167, 3, .goto (-67), 100, 0, 0, 0, 0, []),
  (170, 1, .aload_n 0, 0, 0, 0, 0, 0, []),
  (171, 3, .invokevirtual 188, mM_wide, 0, 10, 180, 0, [(0, 1)]),
  (174, 1, .ireturn, 0, 0, 0, 0, 0, [])]
theorem ckM_turn_0 : ((cdM_turn.drop 0).take 60).all (rowOK mM_turn) = true := by decide +kernel
theorem ckM_turn_60 : ((cdM_turn.drop 60).take 60).all (rowOK mM_turn) = true := by decide +kernel
theorem ckM_turn : cdM_turn.all (rowOK mM_turn) = true := by
  have h : (cdM_turn.drop 0).all (rowOK mM_turn) = true := (all_cut 60 ckM_turn_0 (by rw [List.drop_drop]; exact (all_cut 60 ckM_turn_60 (by rw [List.drop_drop]; exact (by rw [show cdM_turn.drop 120 = [] from rfl]; rfl)))))
  exact h
def cdM_dearest : List Row := [
  (0, 1, .iconst (-1), 0, 0, 0, 0, (-1), []),
  (1, 1, .istore_n 2, 0, 0, 0, 0, 0, []),
  (2, 1, .lconst 0, 0, 0, 0, 0, 0, []),
  (3, 1, .lstore_n 3, 0, 0, 0, 0, 0, []),
  (4, 1, .lconst 1, 1, 0, 0, 0, 0, []),
  (5, 2, .lstore 5, 0, 0, 0, 0, 0, []),
  (7, 1, .iconst 0, 0, 0, 0, 0, 0, []),
  (8, 2, .istore 7, 0, 0, 0, 0, 0, []),
  (10, 2, .iload 7, 0, 0, 0, 0, 0, []),
  (12, 1, .aload_n 0, 0, 0, 0, 0, 0, []),
  (13, 3, .invokevirtual 221, mM_cells, 0, 10, 190, 0, [(0, 1)]),
  (16, 3, .if_icmp .ge 102, 118, 0, 0, 0, 0, []),
  (19, 1, .iload_n 1, 0, 0, 0, 0, 0, []),
  (20, 1, .iconst (-1), 0, 0, 0, 0, (-1), []),
  (21, 3, .if_icmp .ne 12, 33, 0, 0, 0, 0, []),
  (24, 1, .aload_n 0, 0, 0, 0, 0, 0, []),
  (25, 2, .iload 7, 0, 0, 0, 0, 0, []),
  (27, 3, .invokevirtual 296, mM_nearestOn, 1, 10, 209, 0, [(0, 1)]),
  (30, 3, .goto 19, 49, 0, 0, 0, 0, []),
  (33, 1, .aload_n 0, 0, 0, 0, 0, 0, []),
  (34, 3, .getfield 29, 10, 19, 2, 128, 0, []),
  (37, 2, .iload 7, 0, 0, 0, 0, 0, []),
  (39, 1, .iaload, 0, 0, 0, 0, 0, []),
  (40, 1, .iload_n 1, 0, 0, 0, 0, 0, []),
  (41, 3, .if_icmp .ne 7, 48, 0, 0, 0, 0, []),
  (44, 1, .iload_n 1, 0, 0, 0, 0, 0, []),
  (45, 3, .goto 4, 49, 0, 0, 0, 0, []),
  (48, 1, .iconst (-1), 0, 0, 0, 0, (-1), []),
  (49, 2, .istore 8, 0, 0, 0, 0, 0, []),
  (51, 2, .iload 8, 0, 0, 0, 0, 0, []),
  (53, 1, .iconst (-1), 0, 0, 0, 0, (-1), []),
  (54, 3, .if_icmp .ne 6, 60, 0, 0, 0, 0, []),
  (57, 3, .goto 55, 112, 0, 0, 0, 0, []),
  (60, 1, .aload_n 0, 0, 0, 0, 0, 0, []),
  (61, 2, .iload 7, 0, 0, 0, 0, 0, []),
  (63, 3, .invokevirtual 233, mM_weight, 1, 10, 193, 0, [(0, 1)]),
  (66, 1, .i2l, 0, 0, 0, 0, 0, []),
  (67, 1, .aload_n 0, 0, 0, 0, 0, 0, []),
  (68, 2, .iload 7, 0, 0, 0, 0, 0, []),
  (70, 2, .iload 8, 0, 0, 0, 0, 0, []),
  (72, 3, .invokevirtual 214, mM_upper, 2, 10, 188, 0, [(0, 2)]),
  (75, 1, .lmul, 0, 0, 0, 0, 0, []),
  (76, 2, .lstore 9, 0, 0, 0, 0, 0, []),
  (78, 2, .lload 9, 0, 0, 0, 0, 0, []),
  (80, 2, .lload 5, 0, 0, 0, 0, 0, []),
  (82, 1, .lmul, 0, 0, 0, 0, 0, []),
  (83, 1, .lload_n 3, 0, 0, 0, 0, 0, []),
  (84, 1, .aload_n 0, 0, 0, 0, 0, 0, []),
  (85, 2, .iload 8, 0, 0, 0, 0, 0, []),
  (87, 3, .invokevirtual 218, mM_lower, 1, 10, 189, 0, [(0, 2)]),
  (90, 1, .lmul, 0, 0, 0, 0, 0, []),
  (91, 1, .lcmp, 0, 0, 0, 0, 0, []),
  (92, 3, .ifCond .gt 6, 98, 0, 0, 0, 0, []),
  (95, 3, .goto 17, 112, 0, 0, 0, 0, []),
  (98, 2, .iload 7, 0, 0, 0, 0, 0, []),
  (100, 1, .istore_n 2, 0, 0, 0, 0, 0, []),
  (101, 2, .lload 9, 0, 0, 0, 0, 0, []),
  (103, 1, .lstore_n 3, 0, 0, 0, 0, 0, []),
  (104, 1, .aload_n 0, 0, 0, 0, 0, 0, []),
  (105, 2, .iload 8, 0, 0, 0, 0, 0, []),
  (107, 3, .invokevirtual 218, mM_lower, 1, 10, 189, 0, [(0, 2)]),
  (110, 2, .lstore 5, 0, 0, 0, 0, 0, []),
  (112, 3, .iinc 7 1, 0, 0, 0, 0, 1, []),
  (115, 3, .goto (-105), 10, 0, 0, 0, 0, []),
  (118, 1, .iload_n 2, 0, 0, 0, 0, 0, []),
  (119, 1, .ireturn, 0, 0, 0, 0, 0, [])]
theorem ckM_dearest : cdM_dearest.all (rowOK mM_dearest) = true := by decide +kernel
def cdM_nearestOn : List Row := [
  (0, 1, .iconst (-1), 0, 0, 0, 0, (-1), []),
  (1, 1, .istore_n 2, 0, 0, 0, 0, 0, []),
  (2, 1, .iconst 0, 0, 0, 0, 0, 0, []),
  (3, 1, .istore_n 3, 0, 0, 0, 0, 0, []),
  (4, 1, .iload_n 3, 0, 0, 0, 0, 0, []),
  (5, 1, .aload_n 0, 0, 0, 0, 0, 0, []),
  (6, 3, .invokevirtual 195, mM_dots, 0, 10, 182, 0, [(0, 1)]),
  (9, 3, .if_icmp .ge 35, 44, 0, 0, 0, 0, []),
  (12, 1, .aload_n 0, 0, 0, 0, 0, 0, []),
  (13, 3, .getfield 41, 10, 23, 2, 132, 0, []),
  (16, 1, .iload_n 3, 0, 0, 0, 0, 0, []),
  (17, 1, .baload, 0, 0, 0, 0, 0, []),
  (18, 3, .ifCond .ne 20, 38, 0, 0, 0, 0, []),
  (21, 1, .iload_n 2, 0, 0, 0, 0, 0, []),
  (22, 1, .iconst (-1), 0, 0, 0, 0, (-1), []),
  (23, 3, .if_icmp .eq 13, 36, 0, 0, 0, 0, []),
  (26, 1, .aload_n 0, 0, 0, 0, 0, 0, []),
  (27, 1, .iload_n 1, 0, 0, 0, 0, 0, []),
  (28, 1, .iload_n 3, 0, 0, 0, 0, 0, []),
  (29, 1, .iload_n 2, 0, 0, 0, 0, 0, []),
  (30, 3, .invokevirtual 227, mM_isNearer, 3, 10, 192, 0, [(0, 1)]),
  (33, 3, .ifCond .eq 5, 38, 0, 0, 0, 0, []),
  (36, 1, .iload_n 3, 0, 0, 0, 0, 0, []),
  (37, 1, .istore_n 2, 0, 0, 0, 0, 0, []),
  (38, 3, .iinc 3 1, 0, 0, 0, 0, 1, []),
  (41, 3, .goto (-37), 4, 0, 0, 0, 0, []),
  (44, 1, .iload_n 2, 0, 0, 0, 0, 0, []),
  (45, 1, .ireturn, 0, 0, 0, 0, 0, [])]
theorem ckM_nearestOn : cdM_nearestOn.all (rowOK mM_nearestOn) = true := by decide +kernel
def cdM_toMiddle : List Row := [
  (0, 1, .iconst 0, 0, 0, 0, 0, 0, []),
  (1, 1, .istore_n 2, 0, 0, 0, 0, 0, []),
  (2, 1, .iconst 0, 0, 0, 0, 0, 0, []),
  (3, 1, .istore_n 3, 0, 0, 0, 0, 0, []),
  (4, 1, .iconst 0, 0, 0, 0, 0, 0, []),
  (5, 2, .istore 4, 0, 0, 0, 0, 0, []),
  (7, 2, .iload 4, 0, 0, 0, 0, 0, []),
  (9, 1, .aload_n 0, 0, 0, 0, 0, 0, []),
  (10, 3, .invokevirtual 221, mM_cells, 0, 10, 190, 0, [(0, 1)]),
  (13, 3, .if_icmp .ge 57, 70, 0, 0, 0, 0, []),
  (16, 1, .aload_n 0, 0, 0, 0, 0, 0, []),
  (17, 3, .getfield 29, 10, 19, 2, 128, 0, []),
  (20, 2, .iload 4, 0, 0, 0, 0, 0, []),
  (22, 1, .iaload, 0, 0, 0, 0, 0, []),
  (23, 1, .iload_n 1, 0, 0, 0, 0, 0, []),
  (24, 3, .if_icmp .eq 6, 30, 0, 0, 0, 0, []),
  (27, 3, .goto 37, 64, 0, 0, 0, 0, []),
  (30, 1, .iload_n 2, 0, 0, 0, 0, 0, []),
  (31, 1, .aload_n 0, 0, 0, 0, 0, 0, []),
  (32, 2, .iload 4, 0, 0, 0, 0, 0, []),
  (34, 3, .invokevirtual 233, mM_weight, 1, 10, 193, 0, [(0, 1)]),
  (37, 2, .iload 4, 0, 0, 0, 0, 0, []),
  (39, 1, .aload_n 0, 0, 0, 0, 0, 0, []),
  (40, 3, .invokevirtual 188, mM_wide, 0, 10, 180, 0, [(0, 1)]),
  (43, 1, .irem, 0, 0, 0, 0, 0, []),
  (44, 1, .imul, 0, 0, 0, 0, 0, []),
  (45, 1, .iadd, 0, 0, 0, 0, 0, []),
  (46, 1, .istore_n 2, 0, 0, 0, 0, 0, []),
  (47, 1, .iload_n 3, 0, 0, 0, 0, 0, []),
  (48, 1, .aload_n 0, 0, 0, 0, 0, 0, []),
  (49, 2, .iload 4, 0, 0, 0, 0, 0, []),
  (51, 3, .invokevirtual 233, mM_weight, 1, 10, 193, 0, [(0, 1)]),
  (54, 2, .iload 4, 0, 0, 0, 0, 0, []),
  (56, 1, .aload_n 0, 0, 0, 0, 0, 0, []),
  (57, 3, .invokevirtual 188, mM_wide, 0, 10, 180, 0, [(0, 1)]),
  (60, 1, .idiv, 0, 0, 0, 0, 0, []),
  (61, 1, .imul, 0, 0, 0, 0, 0, []),
  (62, 1, .iadd, 0, 0, 0, 0, 0, []),
  (63, 1, .istore_n 3, 0, 0, 0, 0, 0, []),
  (64, 3, .iinc 4 1, 0, 0, 0, 0, 1, []),
  (67, 3, .goto (-60), 7, 0, 0, 0, 0, []),
  (70, 1, .aload_n 0, 0, 0, 0, 0, 0, []),
  (71, 1, .iload_n 1, 0, 0, 0, 0, 0, []),
  (72, 1, .iload_n 2, 0, 0, 0, 0, 0, []),
  (73, 1, .iload_n 3, 0, 0, 0, 0, 0, []),
  (74, 1, .aload_n 0, 0, 0, 0, 0, 0, []),
  (75, 3, .getfield 32, 10, 20, 2, 129, 0, []),
  (78, 1, .iload_n 1, 0, 0, 0, 0, 0, []),
  (79, 1, .iaload, 0, 0, 0, 0, 0, []),
  (80, 3, .invokevirtual 245, mM_lays, 4, 10, 197, 0, [(0, 0)]),
  (83, 1, .return_, 0, 0, 0, 0, 0, [])]
theorem ckM_toMiddle : cdM_toMiddle.all (rowOK mM_toMiddle) = true := by decide +kernel
def cdM_isElsewhere : List Row := [
  (0, 1, .aload_n 1, 0, 0, 0, 0, 0, []),
  (1, 1, .iload_n 2, 0, 0, 0, 0, 0, []),
  (2, 1, .iconst 3, 0, 0, 0, 0, 3, []),
  (3, 1, .iload_n 3, 0, 0, 0, 0, 0, []),
  (4, 1, .imul, 0, 0, 0, 0, 0, []),
  (5, 1, .iadd, 0, 0, 0, 0, 0, []),
  (6, 1, .iaload, 0, 0, 0, 0, 0, []),
  (7, 1, .aload_n 0, 0, 0, 0, 0, 0, []),
  (8, 1, .iload_n 3, 0, 0, 0, 0, 0, []),
  (9, 3, .invokevirtual 208, mM_xOf, 1, 10, 186, 0, [(0, 1)]),
  (12, 3, .if_icmp .ne 39, 51, 0, 0, 0, 0, []),
  (15, 1, .aload_n 1, 0, 0, 0, 0, 0, []),
  (16, 1, .iload_n 2, 0, 0, 0, 0, 0, []),
  (17, 1, .iconst 3, 0, 0, 0, 0, 3, []),
  (18, 1, .iload_n 3, 0, 0, 0, 0, 0, []),
  (19, 1, .imul, 0, 0, 0, 0, 0, []),
  (20, 1, .iadd, 0, 0, 0, 0, 0, []),
  (21, 1, .iconst 1, 0, 0, 0, 0, 1, []),
  (22, 1, .iadd, 0, 0, 0, 0, 0, []),
  (23, 1, .iaload, 0, 0, 0, 0, 0, []),
  (24, 1, .aload_n 0, 0, 0, 0, 0, 0, []),
  (25, 1, .iload_n 3, 0, 0, 0, 0, 0, []),
  (26, 3, .invokevirtual 211, mM_yOf, 1, 10, 187, 0, [(0, 1)]),
  (29, 3, .if_icmp .ne 22, 51, 0, 0, 0, 0, []),
  (32, 1, .aload_n 1, 0, 0, 0, 0, 0, []),
  (33, 1, .iload_n 2, 0, 0, 0, 0, 0, []),
  (34, 1, .iconst 3, 0, 0, 0, 0, 3, []),
  (35, 1, .iload_n 3, 0, 0, 0, 0, 0, []),
  (36, 1, .imul, 0, 0, 0, 0, 0, []),
  (37, 1, .iadd, 0, 0, 0, 0, 0, []),
  (38, 1, .iconst 2, 0, 0, 0, 0, 2, []),
  (39, 1, .iadd, 0, 0, 0, 0, 0, []),
  (40, 1, .iaload, 0, 0, 0, 0, 0, []),
  (41, 1, .i2l, 0, 0, 0, 0, 0, []),
  (42, 1, .aload_n 0, 0, 0, 0, 0, 0, []),
  (43, 1, .iload_n 3, 0, 0, 0, 0, 0, []),
  (44, 3, .invokevirtual 204, mM_under, 1, 10, 185, 0, [(0, 2)]),
  (47, 1, .lcmp, 0, 0, 0, 0, 0, []),
  (48, 3, .ifCond .eq 7, 55, 0, 0, 0, 0, []),
  (51, 1, .iconst 1, 0, 0, 0, 0, 1, []),
  (52, 3, .goto 4, 56, 0, 0, 0, 0, []),
  (55, 1, .iconst 0, 0, 0, 0, 0, 0, []),
  (56, 1, .ireturn, 0, 0, 1, 0, 0, [])]
theorem ckM_isElsewhere : cdM_isElsewhere.all (rowOK mM_isElsewhere) = true := by decide +kernel
def cdM_round : List Row := [
  (0, 1, .aload_n 0, 0, 0, 0, 0, 0, []),
  (1, 3, .invokevirtual 299, mM_laysLoads, 0, 10, 210, 0, [(0, 0)]),
  (4, 1, .iconst 0, 0, 0, 0, 0, 0, []),
  (5, 1, .istore_n 1, 0, 0, 0, 0, 0, []),
  (6, 1, .iload_n 1, 0, 0, 0, 0, 0, []),
  (7, 2, .bipush 120, 0, 0, 0, 0, 120, []),
  (9, 3, .if_icmp .ge 25, 34, 0, 0, 0, 0, []),
  (12, 1, .aload_n 0, 0, 0, 0, 0, 0, []),
  (13, 3, .getfield 38, 10, 22, 2, 131, 0, []),
  (16, 1, .iload_n 1, 0, 0, 0, 0, 0, []),
  (17, 1, .aload_n 0, 0, 0, 0, 0, 0, []),
  (18, 3, .getfield 7, 10, 0, 2, 122, 0, []),
  (21, 3, .sipush 404, 0, 0, 0, 0, 404, []),
  (24, 1, .iload_n 1, 0, 0, 0, 0, 0, []),
  (25, 1, .iadd, 0, 0, 0, 0, 0, []),
  (26, 1, .iaload, 0, 0, 0, 0, 0, []),
  (27, 1, .iastore, 0, 0, 0, 0, 0, []),
  (28, 3, .iinc 1 1, 0, 0, 0, 0, 1, []),
  (31, 3, .goto (-25), 6, 0, 0, 0, 0, []),
  (34, 1, .iconst 0, 0, 0, 0, 0, 0, []),
  (35, 1, .istore_n 1, 0, 0, 0, 0, 0, []),
  (36, 1, .iload_n 1, 0, 0, 0, 0, 0, []),
  (37, 1, .aload_n 0, 0, 0, 0, 0, 0, []),
  (38, 3, .invokevirtual 195, mM_dots, 0, 10, 182, 0, [(0, 1)]),
  (41, 3, .if_icmp .ge 43, 84, 0, 0, 0, 0, []),
  (44, 1, .aload_n 0, 0, 0, 0, 0, 0, []),
  (45, 3, .getfield 41, 10, 23, 2, 132, 0, []),
  (48, 1, .iload_n 1, 0, 0, 0, 0, 0, []),
  (49, 1, .aload_n 0, 0, 0, 0, 0, 0, []),
  (50, 3, .getfield 32, 10, 20, 2, 129, 0, []),
  (53, 1, .iload_n 1, 0, 0, 0, 0, 0, []),
  (54, 1, .iaload, 0, 0, 0, 0, 0, []),
  (55, 3, .ifCond .ne 7, 62, 0, 0, 0, 0, []),
  (58, 1, .iconst 1, 0, 0, 0, 0, 1, []),
  (59, 3, .goto 4, 63, 0, 0, 0, 0, []),
  (62, 1, .iconst 0, 0, 0, 0, 0, 0, []),
  (63, 1, .bastore, 0, 0, 0, 0, 0, []),
  (64, 1, .aload_n 0, 0, 0, 0, 0, 0, []),
  (65, 3, .getfield 41, 10, 23, 2, 132, 0, []),
  (68, 1, .iload_n 1, 0, 0, 0, 0, 0, []),
  (69, 1, .baload, 0, 0, 0, 0, 0, []),
  (70, 3, .ifCond .ne 8, 78, 0, 0, 0, 0, []),
  (73, 1, .aload_n 0, 0, 0, 0, 0, 0, []),
  (74, 1, .iload_n 1, 0, 0, 0, 0, 0, []),
  (75, 3, .invokevirtual 302, mM_toMiddle, 1, 10, 211, 0, [(0, 0)]),
  (78, 3, .iinc 1 1, 0, 0, 0, 0, 1, []),
  (81, 3, .goto (-45), 36, 0, 0, 0, 0, []),
  (84, 1, .iconst 0, 0, 0, 0, 0, 0, []),
  (85, 1, .istore_n 1, 0, 0, 0, 0, 0, []),
  (86, 1, .iload_n 1, 0, 0, 0, 0, 0, []),
  (87, 1, .aload_n 0, 0, 0, 0, 0, 0, []),
  (88, 3, .invokevirtual 195, mM_dots, 0, 10, 182, 0, [(0, 1)]),
  (91, 3, .if_icmp .ge 61, 152, 0, 0, 0, 0, []),
  (94, 1, .aload_n 0, 0, 0, 0, 0, 0, []),
  (95, 3, .getfield 32, 10, 20, 2, 129, 0, []),
  (98, 1, .iload_n 1, 0, 0, 0, 0, 0, []),
  (99, 1, .iaload, 0, 0, 0, 0, 0, []),
  (100, 3, .ifCond .ne 11, 111, 0, 0, 0, 0, []),
  (103, 1, .aload_n 0, 0, 0, 0, 0, 0, []),
  (104, 1, .iconst (-1), 0, 0, 0, 0, (-1), []),
  (105, 3, .invokevirtual 305, mM_dearest, 1, 10, 212, 0, [(0, 1)]),
  (108, 3, .goto 4, 112, 0, 0, 0, 0, []),
  (111, 1, .iconst (-1), 0, 0, 0, 0, (-1), []),
  (112, 1, .istore_n 2, 0, 0, 0, 0, 0, []),
  (113, 1, .iload_n 2, 0, 0, 0, 0, 0, []),
  (114, 1, .iconst (-1), 0, 0, 0, 0, (-1), []),
  (115, 3, .if_icmp .ne 6, 121, 0, 0, 0, 0, []),
  (118, 3, .goto 28, 146, 0, 0, 0, 0, []),
  (121, 1, .aload_n 0, 0, 0, 0, 0, 0, []),
  (122, 1, .iload_n 1, 0, 0, 0, 0, 0, []),
  (123, 1, .iload_n 2, 0, 0, 0, 0, 0, []),
  (124, 1, .aload_n 0, 0, 0, 0, 0, 0, []),
  (125, 3, .invokevirtual 188, mM_wide, 0, 10, 180, 0, [(0, 1)]),
  (128, 1, .irem, 0, 0, 0, 0, 0, []),
  (129, 1, .iload_n 2, 0, 0, 0, 0, 0, []),
  (130, 1, .aload_n 0, 0, 0, 0, 0, 0, []),
  (131, 3, .invokevirtual 188, mM_wide, 0, 10, 180, 0, [(0, 1)]),
  (134, 1, .idiv, 0, 0, 0, 0, 0, []),
  (135, 1, .iconst 1, 0, 0, 0, 0, 1, []),
  (136, 3, .invokevirtual 245, mM_lays, 4, 10, 197, 0, [(0, 0)]),
  (139, 1, .aload_n 0, 0, 0, 0, 0, 0, []),
  (140, 3, .getfield 41, 10, 23, 2, 132, 0, []),
  (143, 1, .iload_n 1, 0, 0, 0, 0, 0, []),
  (144, 1, .iconst 0, 0, 0, 0, 0, 0, []),
  (145, 1, .bastore, 0, 0, 0, 0, 0, []),
  (146, 3, .iinc 1 1, 0, 0, 0, 0, 1, []),
  (149, 3, .goto (-63), 86, 0, 0, 0, 0, []),
  (152, 1, .aload_n 0, 0, 0, 0, 0, 0, []),
  (153, 1, .iconst 0, 0, 0, 0, 0, 0, []),
  (154, 3, .putfield 308, 10, 24, 0, 161, 0, []),
  (157, 1, .iconst 0, 0, 0, 0, 0, 0, []),
  (158, 1, .istore_n 1, 0, 0, 0, 0, 0, []),
  (159, 1, .iload_n 1, 0, 0, 0, 0, 0, []),
  (160, 1, .aload_n 0, 0, 0, 0, 0, 0, []),
  (161, 3, .invokevirtual 195, mM_dots, 0, 10, 182, 0, [(0, 1)]),
  (164, 3, .if_icmp .ge 31, 195, 0, 0, 0, 0, []),
  (167, 1, .aload_n 0, 0, 0, 0, 0, 0, []),
  (168, 1, .dup, 0, 0, 0, 0, 0, []),
  (169, 3, .getfield 308, 10, 24, 0, 161, 0, []),
  (172, 1, .aload_n 0, 0, 0, 0, 0, 0, []),
  (173, 1, .aload_n 0, 0, 0, 0, 0, 0, []),
  (174, 3, .getfield 38, 10, 22, 2, 131, 0, []),
  (177, 1, .iconst 0, 0, 0, 0, 0, 0, []),
  (178, 1, .iload_n 1, 0, 0, 0, 0, 0, []),
  (179, 3, .invokevirtual 311, mM_isElsewhere, 3, 10, 213, 0, [(0, 1)]),
  (182, 3, .invokestatic 284, mM_truth, 1, 0, 206, 0, [(0, 1)]),
  (185, 1, .iadd, 0, 0, 0, 0, 0, []),
  (186, 3, .putfield 308, 10, 24, 0, 161, 0, []),
  (189, 3, .iinc 1 1, 0, 0, 0, 0, 1, []),
  (192, 3, .goto (-33), 159, 0, 0, 0, 0, []),
  (195, 1, .return_, 0, 0, 0, 0, 0, [])]
theorem ckM_round_0 : ((cdM_round.drop 0).take 60).all (rowOK mM_round) = true := by decide +kernel
theorem ckM_round_60 : ((cdM_round.drop 60).take 60).all (rowOK mM_round) = true := by decide +kernel
theorem ckM_round : cdM_round.all (rowOK mM_round) = true := by
  have h : (cdM_round.drop 0).all (rowOK mM_round) = true := (all_cut 60 ckM_round_0 (by rw [List.drop_drop]; exact (all_cut 60 ckM_round_60 (by rw [List.drop_drop]; exact (by rw [show cdM_round.drop 120 = [] from rfl]; rfl)))))
  exact h
def cdM_notes : List Row := [
  (0, 2, .bipush 19, 0, 0, 0, 0, 19, []),
  (2, 1, .istore_n 2, 0, 0, 0, 0, 0, []),
  (3, 1, .iload_n 2, 0, 0, 0, 0, 0, []),
  (4, 3, .ifCond .le 37, 41, 0, 0, 0, 0, []),
  (7, 1, .aload_n 0, 0, 0, 0, 0, 0, []),
  (8, 3, .getfield 45, 10, 25, 2, 133, 0, []),
  (11, 1, .iload_n 2, 0, 0, 0, 0, 0, []),
  (12, 1, .aload_n 0, 0, 0, 0, 0, 0, []),
  (13, 3, .getfield 45, 10, 25, 2, 133, 0, []),
  (16, 1, .iload_n 2, 0, 0, 0, 0, 0, []),
  (17, 1, .iconst 1, 0, 0, 0, 0, 1, []),
  (18, 1, .isub, 0, 0, 0, 0, 0, []),
  (19, 1, .iaload, 0, 0, 0, 0, 0, []),
  (20, 1, .iastore, 0, 0, 0, 0, 0, []),
  (21, 1, .aload_n 0, 0, 0, 0, 0, 0, []),
  (22, 3, .getfield 48, 10, 26, 2, 134, 0, []),
  (25, 1, .iload_n 2, 0, 0, 0, 0, 0, []),
  (26, 1, .aload_n 0, 0, 0, 0, 0, 0, []),
  (27, 3, .getfield 48, 10, 26, 2, 134, 0, []),
  (30, 1, .iload_n 2, 0, 0, 0, 0, 0, []),
  (31, 1, .iconst 1, 0, 0, 0, 0, 1, []),
  (32, 1, .isub, 0, 0, 0, 0, 0, []),
  (33, 1, .iaload, 0, 0, 0, 0, 0, []),
  (34, 1, .iastore, 0, 0, 0, 0, 0, []),
  (35, 3, .iinc 2 (-1), 0, 0, 0, 0, (-1), []),
  (38, 3, .goto (-35), 3, 0, 0, 0, 0, []),
  (41, 1, .aload_n 0, 0, 0, 0, 0, 0, []),
  (42, 3, .getfield 45, 10, 25, 2, 133, 0, []),
  (45, 1, .iconst 0, 0, 0, 0, 0, 0, []),
  (46, 1, .aload_n 0, 0, 0, 0, 0, 0, []),
  (47, 3, .getfield 308, 10, 24, 0, 161, 0, []),
  (50, 1, .iastore, 0, 0, 0, 0, 0, []),
  (51, 1, .aload_n 0, 0, 0, 0, 0, 0, []),
  (52, 3, .getfield 48, 10, 26, 2, 134, 0, []),
  (55, 1, .iconst 0, 0, 0, 0, 0, 0, []),
  (56, 1, .iload_n 1, 0, 0, 0, 0, 0, []),
  (57, 1, .iastore, 0, 0, 0, 0, 0, []),
  (58, 1, .aload_n 0, 0, 0, 0, 0, 0, []),
  (59, 1, .aload_n 0, 0, 0, 0, 0, 0, []),
  (60, 3, .getfield 179, 10, 27, 0, 160, 0, []),
  (63, 2, .bipush 20, 0, 0, 0, 0, 20, []),
  (65, 3, .if_icmp .ge 12, 77, 0, 0, 0, 0, []),
  (68, 1, .aload_n 0, 0, 0, 0, 0, 0, []),
  (69, 3, .getfield 179, 10, 27, 0, 160, 0, []),
  (72, 1, .iconst 1, 0, 0, 0, 0, 1, []),
  (73, 1, .iadd, 0, 0, 0, 0, 0, []),
  (74, 3, .goto 5, 79, 0, 0, 0, 0, []),
  (77, 2, .bipush 20, 0, 0, 0, 0, 20, []),
  (79, 3, .putfield 179, 10, 27, 0, 160, 0, []),
  (82, 1, .return_, 0, 0, 0, 0, 0, [])]
theorem ckM_notes : cdM_notes.all (rowOK mM_notes) = true := by decide +kernel
def cdM_rounds : List Row := [
  (0, 1, .iload_n 1, 0, 0, 0, 0, 0, []),
  (1, 1, .i2l, 0, 0, 0, 0, 0, []),
  (2, 1, .lconst 1, 1, 0, 0, 0, 0, []),
  (3, 3, .ldc2_w 315, 100, 0, 0, 15, 0, []),
  (6, 3, .invokestatic 94, mM_isIn, 3, 0, 166, 0, [(0, 1)]),
  (9, 3, .ifCond .eq 10, 19, 0, 0, 0, 0, []),
  (12, 1, .aload_n 0, 0, 0, 0, 0, 0, []),
  (13, 3, .invokevirtual 195, mM_dots, 0, 10, 182, 0, [(0, 1)]),
  (16, 3, .ifCond .ne 5, 21, 0, 0, 0, 0, []),
  (19, 1, .iconst (-1), 0, 0, 0, 0, (-1), []),
  (20, 1, .ireturn, 0, 0, 0, 0, 0, []),
  (21, 1, .aload_n 0, 0, 0, 0, 0, 0, []),
  (22, 3, .invokevirtual 182, mM_act, 0, 10, 178, 0, [(0, 0)]),
  (25, 1, .iconst 0, 0, 0, 0, 0, 0, []),
  (26, 1, .istore_n 2, 0, 0, 0, 0, 0, []),
  (27, 1, .aload_n 0, 0, 0, 0, 0, 0, []),
  (28, 1, .iconst 1, 0, 0, 0, 0, 1, []),
  (29, 3, .putfield 308, 10, 24, 0, 161, 0, []),
  (32, 1, .iload_n 2, 0, 0, 0, 0, 0, []),
  (33, 1, .iload_n 1, 0, 0, 0, 0, 0, []),
  (34, 3, .if_icmp .ge 30, 64, 0, 0, 0, 0, []),
  (37, 1, .aload_n 0, 0, 0, 0, 0, 0, []),
  (38, 3, .getfield 308, 10, 24, 0, 161, 0, []),
  (41, 3, .ifCond .le 23, 64, 0, 0, 0, 0, []),
  (44, 1, .aload_n 0, 0, 0, 0, 0, 0, []),
  (45, 3, .invokevirtual 317, mM_allCost, 0, 10, 214, 0, [(0, 1)]),
  (48, 1, .istore_n 3, 0, 0, 0, 0, 0, []),
  (49, 1, .aload_n 0, 0, 0, 0, 0, 0, []),
  (50, 3, .invokevirtual 320, mM_round, 0, 10, 215, 0, [(0, 0)]),
  (53, 1, .aload_n 0, 0, 0, 0, 0, 0, []),
  (54, 1, .iload_n 3, 0, 0, 0, 0, 0, []),
  (55, 3, .invokevirtual 323, mM_notes, 1, 10, 216, 0, [(0, 0)]),
  (58, 3, .iinc 2 1, 0, 0, 0, 0, 1, []),
  (61, 3, .goto (-29), 32, 0, 0, 0, 0, []),
  (64, 1, .iload_n 2, 0, 0, 0, 0, 0, []),
  (65, 1, .ireturn, 0, 0, 0, 0, 0, [])]
theorem ckM_rounds : cdM_rounds.all (rowOK mM_rounds) = true := by decide +kernel
def cdM_steps : List Row := [
  (0, 1, .iload_n 1, 0, 0, 0, 0, 0, []),
  (1, 1, .iconst (-1), 0, 0, 0, 0, (-1), []),
  (2, 3, .if_icmp .ne 8, 10, 0, 0, 0, 0, []),
  (5, 1, .aload_n 0, 0, 0, 0, 0, 0, []),
  (6, 3, .getfield 179, 10, 27, 0, 160, 0, []),
  (9, 1, .ireturn, 0, 0, 0, 0, 0, []),
  (10, 1, .iload_n 1, 0, 0, 0, 0, 0, []),
  (11, 1, .i2l, 0, 0, 0, 0, 0, []),
  (12, 1, .lconst 0, 0, 0, 0, 0, 0, []),
  (13, 1, .aload_n 0, 0, 0, 0, 0, 0, []),
  (14, 3, .getfield 179, 10, 27, 0, 160, 0, []),
  (17, 1, .iconst 1, 0, 0, 0, 0, 1, []),
  (18, 1, .isub, 0, 0, 0, 0, 0, []),
  (19, 1, .i2l, 0, 0, 0, 0, 0, []),
  (20, 3, .invokestatic 94, mM_isIn, 3, 0, 166, 0, [(0, 1)]),
  (23, 3, .ifCond .ne 5, 28, 0, 0, 0, 0, []),
  (26, 1, .iconst (-1), 0, 0, 0, 0, (-1), []),
  (27, 1, .ireturn, 0, 0, 0, 0, 0, []),
  (28, 1, .iload_n 2, 0, 0, 0, 0, 0, []),
  (29, 3, .ifCond .ne 12, 41, 0, 0, 0, 0, []),
  (32, 1, .aload_n 0, 0, 0, 0, 0, 0, []),
  (33, 3, .getfield 45, 10, 25, 2, 133, 0, []),
  (36, 1, .iload_n 1, 0, 0, 0, 0, 0, []),
  (37, 1, .iaload, 0, 0, 0, 0, 0, []),
  (38, 3, .goto 18, 56, 0, 0, 0, 0, []),
  (41, 1, .iload_n 2, 0, 0, 0, 0, 0, []),
  (42, 1, .iconst 1, 0, 0, 0, 0, 1, []),
  (43, 3, .if_icmp .ne 12, 55, 0, 0, 0, 0, []),
  (46, 1, .aload_n 0, 0, 0, 0, 0, 0, []),
  (47, 3, .getfield 48, 10, 26, 2, 134, 0, []),
  (50, 1, .iload_n 1, 0, 0, 0, 0, 0, []),
  (51, 1, .iaload, 0, 0, 0, 0, 0, []),
  (52, 3, .goto 4, 56, 0, 0, 0, 0, []),
  (55, 1, .iconst (-1), 0, 0, 0, 0, (-1), []),
  (56, 1, .ireturn, 0, 0, 0, 0, 0, [])]
theorem ckM_steps : cdM_steps.all (rowOK mM_steps) = true := by decide +kernel
def cdM_puts : List Row := [
  (0, 1, .iconst 0, 0, 0, 0, 0, 0, []),
  (1, 1, .istore_n 1, 0, 0, 0, 0, 0, []),
  (2, 1, .iload_n 1, 0, 0, 0, 0, 0, []),
  (3, 3, .sipush 524, 0, 0, 0, 0, 524, []),
  (6, 3, .if_icmp .ge 21, 27, 0, 0, 0, 0, []),
  (9, 1, .aload_n 0, 0, 0, 0, 0, 0, []),
  (10, 3, .getfield 35, 10, 21, 2, 130, 0, []),
  (13, 1, .iload_n 1, 0, 0, 0, 0, 0, []),
  (14, 1, .aload_n 0, 0, 0, 0, 0, 0, []),
  (15, 3, .getfield 7, 10, 0, 2, 122, 0, []),
  (18, 1, .iload_n 1, 0, 0, 0, 0, 0, []),
  (19, 1, .iaload, 0, 0, 0, 0, 0, []),
  (20, 1, .iastore, 0, 0, 0, 0, 0, []),
  (21, 3, .iinc 1 1, 0, 0, 0, 0, 1, []),
  (24, 3, .goto (-22), 2, 0, 0, 0, 0, []),
  (27, 1, .return_, 0, 0, 0, 0, 0, [])]
theorem ckM_puts : cdM_puts.all (rowOK mM_puts) = true := by decide +kernel
def cdM_takesBack : List Row := [
  (0, 1, .iconst 0, 0, 0, 0, 0, 0, []),
  (1, 1, .istore_n 1, 0, 0, 0, 0, 0, []),
  (2, 1, .iload_n 1, 0, 0, 0, 0, 0, []),
  (3, 3, .sipush 524, 0, 0, 0, 0, 524, []),
  (6, 3, .if_icmp .ge 21, 27, 0, 0, 0, 0, []),
  (9, 1, .aload_n 0, 0, 0, 0, 0, 0, []),
  (10, 3, .getfield 7, 10, 0, 2, 122, 0, []),
  (13, 1, .iload_n 1, 0, 0, 0, 0, 0, []),
  (14, 1, .aload_n 0, 0, 0, 0, 0, 0, []),
  (15, 3, .getfield 35, 10, 21, 2, 130, 0, []),
  (18, 1, .iload_n 1, 0, 0, 0, 0, 0, []),
  (19, 1, .iaload, 0, 0, 0, 0, 0, []),
  (20, 1, .iastore, 0, 0, 0, 0, 0, []),
  (21, 3, .iinc 1 1, 0, 0, 0, 0, 1, []),
  (24, 3, .goto (-22), 2, 0, 0, 0, 0, []),
  (27, 1, .return_, 0, 0, 0, 0, 0, [])]
theorem ckM_takesBack : cdM_takesBack.all (rowOK mM_takesBack) = true := by decide +kernel
def cdM_moves : List Row := [
  (0, 1, .aload_n 0, 0, 0, 0, 0, 0, []),
  (1, 3, .invokevirtual 195, mM_dots, 0, 10, 182, 0, [(0, 1)]),
  (4, 3, .ifCond .ne 5, 9, 0, 0, 0, 0, []),
  (7, 1, .iconst (-1), 0, 0, 0, 0, (-1), []),
  (8, 1, .ireturn, 0, 0, 0, 0, 0, []),
  (9, 1, .aload_n 0, 0, 0, 0, 0, 0, []),
  (10, 3, .invokevirtual 326, mM_puts, 0, 10, 217, 0, [(0, 0)]),
  (13, 1, .aload_n 0, 0, 0, 0, 0, 0, []),
  (14, 3, .invokevirtual 320, mM_round, 0, 10, 215, 0, [(0, 0)]),
  (17, 1, .aload_n 0, 0, 0, 0, 0, 0, []),
  (18, 3, .invokevirtual 329, mM_takesBack, 0, 10, 218, 0, [(0, 0)]),
  (21, 1, .aload_n 0, 0, 0, 0, 0, 0, []),
  (22, 3, .getfield 308, 10, 24, 0, 161, 0, []),
  (25, 1, .ireturn, 0, 0, 0, 0, 0, [])]
theorem ckM_moves : cdM_moves.all (rowOK mM_moves) = true := by decide +kernel
def cdM_till : List Row := [
  (0, 1, .aload_n 0, 0, 0, 0, 0, 0, []),
  (1, 3, .invokevirtual 195, mM_dots, 0, 10, 182, 0, [(0, 1)]),
  (4, 3, .ifCond .eq 13, 17, 0, 0, 0, 0, []),
  (7, 1, .iload_n 1, 0, 0, 0, 0, 0, []),
  (8, 1, .i2l, 0, 0, 0, 0, 0, []),
  (9, 1, .lconst 0, 0, 0, 0, 0, 0, []),
  (10, 1, .lconst 1, 1, 0, 0, 0, 0, []),
  (11, 3, .invokestatic 94, mM_isIn, 3, 0, 166, 0, [(0, 1)]),
  (14, 3, .ifCond .ne 5, 19, 0, 0, 0, 0, []),
  (17, 1, .iconst (-1), 0, 0, 0, 0, (-1), []),
  (18, 1, .ireturn, 0, 0, 0, 0, 0, []),
  (19, 1, .aload_n 0, 0, 0, 0, 0, 0, []),
  (20, 3, .invokevirtual 326, mM_puts, 0, 10, 217, 0, [(0, 0)]),
  (23, 1, .iconst 0, 0, 0, 0, 0, 0, []),
  (24, 1, .istore_n 2, 0, 0, 0, 0, 0, []),
  (25, 1, .aload_n 0, 0, 0, 0, 0, 0, []),
  (26, 1, .iconst 1, 0, 0, 0, 0, 1, []),
  (27, 3, .putfield 308, 10, 24, 0, 161, 0, []),
  (30, 1, .iload_n 2, 0, 0, 0, 0, 0, []),
  (31, 3, .sipush 200, 0, 0, 0, 0, 200, []),
  (34, 3, .if_icmp .ge 20, 54, 0, 0, 0, 0, []),
  (37, 1, .aload_n 0, 0, 0, 0, 0, 0, []),
  (38, 3, .getfield 308, 10, 24, 0, 161, 0, []),
  (41, 3, .ifCond .le 13, 54, 0, 0, 0, 0, []),
  (44, 1, .aload_n 0, 0, 0, 0, 0, 0, []),
  (45, 3, .invokevirtual 320, mM_round, 0, 10, 215, 0, [(0, 0)]),
  (48, 3, .iinc 2 1, 0, 0, 0, 0, 1, []),
  (51, 3, .goto (-21), 30, 0, 0, 0, 0, []),
  (54, 1, .aload_n 0, 0, 0, 0, 0, 0, []),
  (55, 3, .invokevirtual 317, mM_allCost, 0, 10, 214, 0, [(0, 1)]),
  (58, 1, .istore_n 3, 0, 0, 0, 0, 0, []),
  (59, 1, .aload_n 0, 0, 0, 0, 0, 0, []),
  (60, 3, .invokevirtual 329, mM_takesBack, 0, 10, 218, 0, [(0, 0)]),
  (63, 1, .aload_n 0, 0, 0, 0, 0, 0, []),
  (64, 3, .getfield 308, 10, 24, 0, 161, 0, []),
  (67, 3, .ifCond .le 7, 74, 0, 0, 0, 0, []),
  (70, 1, .iconst (-1), 0, 0, 0, 0, (-1), []),
  (71, 3, .goto 12, 83, 0, 0, 0, 0, []),
  (74, 1, .iload_n 1, 0, 0, 0, 0, 0, []),
  (75, 3, .ifCond .ne 7, 82, 0, 0, 0, 0, []),
  (78, 1, .iload_n 2, 0, 0, 0, 0, 0, []),
  (79, 3, .goto 4, 83, 0, 0, 0, 0, []),
  (82, 1, .iload_n 3, 0, 0, 0, 0, 0, []),
  (83, 1, .ireturn, 0, 0, 0, 0, 0, [])]
theorem ckM_till : cdM_till.all (rowOK mM_till) = true := by decide +kernel
def cdM_apart : List Row := [
  (0, 1, .lload_n 0, 0, 0, 0, 0, 0, []),
  (1, 2, .lload 10, 0, 0, 0, 0, 0, []),
  (3, 1, .lmul, 0, 0, 0, 0, 0, []),
  (4, 2, .lload 6, 0, 0, 0, 0, 0, []),
  (6, 2, .lload 4, 0, 0, 0, 0, 0, []),
  (8, 1, .lmul, 0, 0, 0, 0, 0, []),
  (9, 1, .lsub, 0, 0, 0, 0, 0, []),
  (10, 2, .lstore 12, 0, 0, 0, 0, 0, []),
  (12, 1, .lload_n 2, 0, 0, 0, 0, 0, []),
  (13, 2, .lload 10, 0, 0, 0, 0, 0, []),
  (15, 1, .lmul, 0, 0, 0, 0, 0, []),
  (16, 2, .lload 8, 0, 0, 0, 0, 0, []),
  (18, 2, .lload 4, 0, 0, 0, 0, 0, []),
  (20, 1, .lmul, 0, 0, 0, 0, 0, []),
  (21, 1, .lsub, 0, 0, 0, 0, 0, []),
  (22, 2, .lstore 14, 0, 0, 0, 0, 0, []),
  (24, 2, .lload 12, 0, 0, 0, 0, 0, []),
  (26, 2, .lload 12, 0, 0, 0, 0, 0, []),
  (28, 1, .lmul, 0, 0, 0, 0, 0, []),
  (29, 2, .lload 14, 0, 0, 0, 0, 0, []),
  (31, 2, .lload 14, 0, 0, 0, 0, 0, []),
  (33, 1, .lmul, 0, 0, 0, 0, 0, []),
  (34, 1, .ladd, 0, 0, 0, 0, 0, []),
  (35, 2, .lstore 16, 0, 0, 0, 0, 0, []),
  (37, 2, .lload 4, 0, 0, 0, 0, 0, []),
  (39, 2, .lload 10, 0, 0, 0, 0, 0, []),
  (41, 1, .lmul, 0, 0, 0, 0, 0, []),
  (42, 2, .lload 4, 0, 0, 0, 0, 0, []),
  (44, 1, .lmul, 0, 0, 0, 0, 0, []),
  (45, 2, .lload 10, 0, 0, 0, 0, 0, []),
  (47, 1, .lmul, 0, 0, 0, 0, 0, []),
  (48, 2, .lstore 18, 0, 0, 0, 0, 0, []),
  (50, 2, .lload 16, 0, 0, 0, 0, 0, []),
  (52, 2, .lload 18, 0, 0, 0, 0, 0, []),
  (54, 1, .ldiv, 0, 0, 0, 0, 0, []),
  (55, 3, .ldc2_w 231, 1000, 0, 0, 9, 0, []),
  (58, 1, .lmul, 0, 0, 0, 0, 0, []),
  (59, 2, .lload 16, 0, 0, 0, 0, 0, []),
  (61, 2, .lload 18, 0, 0, 0, 0, 0, []),
  (63, 1, .lrem, 0, 0, 0, 0, 0, []),
  (64, 3, .ldc2_w 231, 1000, 0, 0, 9, 0, []),
  (67, 1, .lmul, 0, 0, 0, 0, 0, []),
  (68, 2, .lload 18, 0, 0, 0, 0, 0, []),
  (70, 1, .ldiv, 0, 0, 0, 0, 0, []),
  (71, 1, .ladd, 0, 0, 0, 0, 0, []),
  (72, 1, .l2i, 0, 0, 0, 0, 0, []),
  (73, 1, .ireturn, 0, 0, 0, 0, 0, [])]
theorem ckM_apart : cdM_apart.all (rowOK mM_apart) = true := by decide +kernel
def cdM_step : List Row := [
  (0, 1, .aload_n 0, 0, 0, 0, 0, 0, []),
  (1, 1, .iload_n 1, 0, 0, 0, 0, 0, []),
  (2, 3, .invokevirtual 260, mM_isDot, 1, 10, 201, 0, [(0, 1)]),
  (5, 3, .ifCond .ne 5, 10, 0, 0, 0, 0, []),
  (8, 1, .iconst (-1), 0, 0, 0, 0, (-1), []),
  (9, 1, .ireturn, 0, 0, 0, 0, 0, []),
  (10, 1, .aload_n 0, 0, 0, 0, 0, 0, []),
  (11, 3, .invokevirtual 326, mM_puts, 0, 10, 217, 0, [(0, 0)]),
  (14, 1, .aload_n 0, 0, 0, 0, 0, 0, []),
  (15, 3, .invokevirtual 320, mM_round, 0, 10, 215, 0, [(0, 0)]),
  (18, 1, .aload_n 0, 0, 0, 0, 0, 0, []),
  (19, 1, .iload_n 1, 0, 0, 0, 0, 0, []),
  (20, 3, .invokevirtual 208, mM_xOf, 1, 10, 186, 0, [(0, 1)]),
  (23, 1, .i2l, 0, 0, 0, 0, 0, []),
  (24, 1, .aload_n 0, 0, 0, 0, 0, 0, []),
  (25, 1, .iload_n 1, 0, 0, 0, 0, 0, []),
  (26, 3, .invokevirtual 211, mM_yOf, 1, 10, 187, 0, [(0, 1)]),
  (29, 1, .i2l, 0, 0, 0, 0, 0, []),
  (30, 1, .aload_n 0, 0, 0, 0, 0, 0, []),
  (31, 1, .iload_n 1, 0, 0, 0, 0, 0, []),
  (32, 3, .invokevirtual 204, mM_under, 1, 10, 185, 0, [(0, 2)]),
  (35, 1, .aload_n 0, 0, 0, 0, 0, 0, []),
  (36, 3, .getfield 38, 10, 22, 2, 131, 0, []),
  (39, 1, .iconst 3, 0, 0, 0, 0, 3, []),
  (40, 1, .iload_n 1, 0, 0, 0, 0, 0, []),
  (41, 1, .imul, 0, 0, 0, 0, 0, []),
  (42, 1, .iaload, 0, 0, 0, 0, 0, []),
  (43, 1, .i2l, 0, 0, 0, 0, 0, []),
  (44, 1, .aload_n 0, 0, 0, 0, 0, 0, []),
  (45, 3, .getfield 38, 10, 22, 2, 131, 0, []),
  (48, 1, .iconst 3, 0, 0, 0, 0, 3, []),
  (49, 1, .iload_n 1, 0, 0, 0, 0, 0, []),
  (50, 1, .imul, 0, 0, 0, 0, 0, []),
  (51, 1, .iconst 1, 0, 0, 0, 0, 1, []),
  (52, 1, .iadd, 0, 0, 0, 0, 0, []),
  (53, 1, .iaload, 0, 0, 0, 0, 0, []),
  (54, 1, .i2l, 0, 0, 0, 0, 0, []),
  (55, 1, .aload_n 0, 0, 0, 0, 0, 0, []),
  (56, 3, .getfield 38, 10, 22, 2, 131, 0, []),
  (59, 1, .iconst 3, 0, 0, 0, 0, 3, []),
  (60, 1, .iload_n 1, 0, 0, 0, 0, 0, []),
  (61, 1, .imul, 0, 0, 0, 0, 0, []),
  (62, 1, .iconst 2, 0, 0, 0, 0, 2, []),
  (63, 1, .iadd, 0, 0, 0, 0, 0, []),
  (64, 1, .iaload, 0, 0, 0, 0, 0, []),
  (65, 1, .i2l, 0, 0, 0, 0, 0, []),
  (66, 3, .invokestatic 332, mM_apart, 6, 0, 219, 0, [(0, 1)]),
  (69, 1, .istore_n 2, 0, 0, 0, 0, 0, []),
  (70, 1, .aload_n 0, 0, 0, 0, 0, 0, []),
  (71, 3, .invokevirtual 329, mM_takesBack, 0, 10, 218, 0, [(0, 0)]),
  (74, 1, .iload_n 2, 0, 0, 0, 0, 0, []),
  (75, 1, .ireturn, 0, 0, 0, 0, 0, [])]
theorem ckM_step : cdM_step.all (rowOK mM_step) = true := by decide +kernel
def cdM_adapt : List Row := [
  (0, 1, .iload_n 1, 0, 0, 0, 0, 0, []),
  (1, 1, .i2l, 0, 0, 0, 0, 0, []),
  (2, 1, .lconst 0, 0, 0, 0, 0, 0, []),
  (3, 3, .ldc2_w 336, 9999, 0, 0, 16, 0, []),
  (6, 3, .invokestatic 94, mM_isIn, 3, 0, 166, 0, [(0, 1)]),
  (9, 3, .ifCond .eq 16, 25, 0, 0, 0, 0, []),
  (12, 1, .iload_n 2, 0, 0, 0, 0, 0, []),
  (13, 1, .i2l, 0, 0, 0, 0, 0, []),
  (14, 1, .iload_n 1, 0, 0, 0, 0, 0, []),
  (15, 1, .i2l, 0, 0, 0, 0, 0, []),
  (16, 3, .ldc2_w 336, 9999, 0, 0, 16, 0, []),
  (19, 3, .invokestatic 94, mM_isIn, 3, 0, 166, 0, [(0, 1)]),
  (22, 3, .ifCond .ne 5, 27, 0, 0, 0, 0, []),
  (25, 1, .iconst (-1), 0, 0, 0, 0, (-1), []),
  (26, 1, .ireturn, 0, 0, 0, 0, 0, []),
  (27, 1, .aload_n 0, 0, 0, 0, 0, 0, []),
  (28, 3, .invokevirtual 299, mM_laysLoads, 0, 10, 210, 0, [(0, 0)]),
  (31, 1, .iconst 0, 0, 0, 0, 0, 0, []),
  (32, 1, .istore_n 3, 0, 0, 0, 0, 0, []),
  (33, 1, .iconst 0, 0, 0, 0, 0, 0, []),
  (34, 2, .istore 4, 0, 0, 0, 0, 0, []),
  (36, 1, .iconst 0, 0, 0, 0, 0, 0, []),
  (37, 2, .istore 5, 0, 0, 0, 0, 0, []),
  (39, 2, .iload 5, 0, 0, 0, 0, 0, []),
  (41, 1, .aload_n 0, 0, 0, 0, 0, 0, []),
  (42, 3, .invokevirtual 195, mM_dots, 0, 10, 182, 0, [(0, 1)]),
  (45, 3, .if_icmp .ge 53, 98, 0, 0, 0, 0, []),
  (48, 1, .aload_n 0, 0, 0, 0, 0, 0, []),
  (49, 3, .getfield 51, 10, 28, 2, 135, 0, []),
  (52, 2, .iload 5, 0, 0, 0, 0, 0, []),
  (54, 1, .aload_n 0, 0, 0, 0, 0, 0, []),
  (55, 3, .getfield 32, 10, 20, 2, 129, 0, []),
  (58, 2, .iload 5, 0, 0, 0, 0, 0, []),
  (60, 1, .iaload, 0, 0, 0, 0, 0, []),
  (61, 1, .iload_n 1, 0, 0, 0, 0, 0, []),
  (62, 3, .if_icmp .ge 7, 69, 0, 0, 0, 0, []),
  (65, 1, .iconst 1, 0, 0, 0, 0, 1, []),
  (66, 3, .goto 4, 70, 0, 0, 0, 0, []),
  (69, 1, .iconst 0, 0, 0, 0, 0, 0, []),
  (70, 1, .bastore, 0, 0, 0, 0, 0, []),
  (71, 1, .iload_n 3, 0, 0, 0, 0, 0, []),
  (72, 1, .aload_n 0, 0, 0, 0, 0, 0, []),
  (73, 3, .getfield 51, 10, 28, 2, 135, 0, []),
  (76, 2, .iload 5, 0, 0, 0, 0, 0, []),
  (78, 1, .baload, 0, 0, 0, 0, 0, []),
  (79, 3, .ifCond .ne 7, 86, 0, 0, 0, 0, []),
  (82, 1, .iconst 1, 0, 0, 0, 0, 1, []),
  (83, 3, .goto 4, 87, 0, 0, 0, 0, []),
  (86, 1, .iconst 0, 0, 0, 0, 0, 0, []),
  (87, 3, .invokestatic 284, mM_truth, 1, 0, 206, 0, [(0, 1)]),
  (90, 1, .iadd, 0, 0, 0, 0, 0, []),
  (91, 1, .istore_n 3, 0, 0, 0, 0, 0, []),
  (92, 3, .iinc 5 1, 0, 0, 0, 0, 1, []),
  (95, 3, .goto (-56), 39, 0, 0, 0, 0, []),
  (98, 1, .iconst 0, 0, 0, 0, 0, 0, []),
  (99, 2, .istore 5, 0, 0, 0, 0, 0, []),
  (101, 2, .iload 5, 0, 0, 0, 0, 0, []),
  (103, 1, .aload_n 0, 0, 0, 0, 0, 0, []),
  (104, 3, .invokevirtual 195, mM_dots, 0, 10, 182, 0, [(0, 1)]),
  (107, 3, .if_icmp .ge 72, 179, 0, 0, 0, 0, []),
  (110, 1, .iload_n 3, 0, 0, 0, 0, 0, []),
  (111, 2, .iload 4, 0, 0, 0, 0, 0, []),
  (113, 1, .iadd, 0, 0, 0, 0, 0, []),
  (114, 2, .bipush 40, 0, 0, 0, 0, 40, []),
  (116, 3, .if_icmp .ge 63, 179, 0, 0, 0, 0, []),
  (119, 1, .aload_n 0, 0, 0, 0, 0, 0, []),
  (120, 3, .getfield 51, 10, 28, 2, 135, 0, []),
  (123, 2, .iload 5, 0, 0, 0, 0, 0, []),
  (125, 1, .baload, 0, 0, 0, 0, 0, []),
  (126, 3, .ifCond .ne 23, 149, 0, 0, 0, 0, []),
  (129, 1, .aload_n 0, 0, 0, 0, 0, 0, []),
  (130, 3, .getfield 32, 10, 20, 2, 129, 0, []),
  (133, 2, .iload 5, 0, 0, 0, 0, 0, []),
  (135, 1, .iaload, 0, 0, 0, 0, 0, []),
  (136, 1, .iload_n 2, 0, 0, 0, 0, 0, []),
  (137, 3, .if_icmp .le 12, 149, 0, 0, 0, 0, []),
  (140, 1, .aload_n 0, 0, 0, 0, 0, 0, []),
  (141, 2, .iload 5, 0, 0, 0, 0, 0, []),
  (143, 3, .invokevirtual 305, mM_dearest, 1, 10, 212, 0, [(0, 1)]),
  (146, 3, .goto 4, 150, 0, 0, 0, 0, []),
  (149, 1, .iconst (-1), 0, 0, 0, 0, (-1), []),
  (150, 2, .istore 6, 0, 0, 0, 0, 0, []),
  (152, 2, .iload 6, 0, 0, 0, 0, 0, []),
  (154, 1, .iconst (-1), 0, 0, 0, 0, (-1), []),
  (155, 3, .if_icmp .ne 6, 161, 0, 0, 0, 0, []),
  (158, 3, .goto 15, 173, 0, 0, 0, 0, []),
  (161, 1, .aload_n 0, 0, 0, 0, 0, 0, []),
  (162, 3, .getfield 54, 10, 29, 2, 136, 0, []),
  (165, 2, .iload 4, 0, 0, 0, 0, 0, []),
  (167, 2, .iload 6, 0, 0, 0, 0, 0, []),
  (169, 1, .iastore, 0, 0, 0, 0, 0, []),
  (170, 3, .iinc 4 1, 0, 0, 0, 0, 1, []),
  (173, 3, .iinc 5 1, 0, 0, 0, 0, 1, []),
  (176, 3, .goto (-75), 101, 0, 0, 0, 0, []),
  (179, 1, .iload_n 3, 0, 0, 0, 0, 0, []),
  (180, 1, .aload_n 0, 0, 0, 0, 0, 0, []),
  (181, 3, .invokevirtual 195, mM_dots, 0, 10, 182, 0, [(0, 1)]),
  (184, 3, .if_icmp .ne 10, 194, 0, 0, 0, 0, []),
  (187, 2, .iload 4, 0, 0, 0, 0, 0, []),
  (189, 3, .ifCond .ne 5, 194, 0, 0, 0, 0, []),
  (192, 1, .iconst (-1), 0, 0, 0, 0, (-1), []),
  (193, 1, .ireturn, 0, 0, 0, 0, 0, []),
  (194, 1, .aload_n 0, 0, 0, 0, 0, 0, []),
  (195, 3, .invokevirtual 253, mM_otherAct, 0, 10, 199, 0, [(0, 0)]),
  (198, 1, .aload_n 0, 0, 0, 0, 0, 0, []),
  (199, 3, .invokevirtual 195, mM_dots, 0, 10, 182, 0, [(0, 1)]),
  (202, 1, .iconst 1, 0, 0, 0, 0, 1, []),
  (203, 1, .isub, 0, 0, 0, 0, 0, []),
  (204, 2, .istore 5, 0, 0, 0, 0, 0, []),
  (206, 2, .iload 5, 0, 0, 0, 0, 0, []),
  (208, 3, .ifCond .lt 25, 233, 0, 0, 0, 0, []),
  (211, 1, .aload_n 0, 0, 0, 0, 0, 0, []),
  (212, 3, .getfield 51, 10, 28, 2, 135, 0, []),
  (215, 2, .iload 5, 0, 0, 0, 0, 0, []),
  (217, 1, .baload, 0, 0, 0, 0, 0, []),
  (218, 3, .ifCond .eq 9, 227, 0, 0, 0, 0, []),
  (221, 1, .aload_n 0, 0, 0, 0, 0, 0, []),
  (222, 2, .iload 5, 0, 0, 0, 0, 0, []),
  (224, 3, .invokevirtual 263, mM_goes, 1, 10, 202, 0, [(0, 0)]),
  (227, 3, .iinc 5 (-1), 0, 0, 0, 0, (-1), []),
  (230, 3, .goto (-24), 206, 0, 0, 0, 0, []),
  (233, 1, .iconst 0, 0, 0, 0, 0, 0, []),
  (234, 2, .istore 5, 0, 0, 0, 0, 0, []),
  (236, 2, .iload 5, 0, 0, 0, 0, 0, []),
  (238, 2, .iload 4, 0, 0, 0, 0, 0, []),
  (240, 3, .if_icmp .ge 37, 277, 0, 0, 0, 0, []),
  (243, 1, .aload_n 0, 0, 0, 0, 0, 0, []),
  (244, 1, .aload_n 0, 0, 0, 0, 0, 0, []),
  (245, 3, .getfield 54, 10, 29, 2, 136, 0, []),
  (248, 2, .iload 5, 0, 0, 0, 0, 0, []),
  (250, 1, .iaload, 0, 0, 0, 0, 0, []),
  (251, 1, .aload_n 0, 0, 0, 0, 0, 0, []),
  (252, 3, .invokevirtual 188, mM_wide, 0, 10, 180, 0, [(0, 1)]),
  (255, 1, .irem, 0, 0, 0, 0, 0, []),
  (256, 1, .aload_n 0, 0, 0, 0, 0, 0, []),
  (257, 3, .getfield 54, 10, 29, 2, 136, 0, []),
  (260, 2, .iload 5, 0, 0, 0, 0, 0, []),
  (262, 1, .iaload, 0, 0, 0, 0, 0, []),
  (263, 1, .aload_n 0, 0, 0, 0, 0, 0, []),
  (264, 3, .invokevirtual 188, mM_wide, 0, 10, 180, 0, [(0, 1)]),
  (267, 1, .idiv, 0, 0, 0, 0, 0, []),
  (268, 3, .invokevirtual 256, mM_comes, 2, 10, 200, 0, [(0, 0)]),
  (271, 3, .iinc 5 1, 0, 0, 0, 0, 1, []),
  (274, 3, .goto (-38), 236, 0, 0, 0, 0, []),
  (277, 1, .aload_n 0, 0, 0, 0, 0, 0, []),
  (278, 3, .invokevirtual 195, mM_dots, 0, 10, 182, 0, [(0, 1)]),
  (281, 1, .ireturn, 0, 0, 0, 0, 0, [])]
theorem ckM_adapt_0 : ((cdM_adapt.drop 0).take 60).all (rowOK mM_adapt) = true := by decide +kernel
theorem ckM_adapt_60 : ((cdM_adapt.drop 60).take 60).all (rowOK mM_adapt) = true := by decide +kernel
theorem ckM_adapt_120 : ((cdM_adapt.drop 120).take 60).all (rowOK mM_adapt) = true := by decide +kernel
theorem ckM_adapt : cdM_adapt.all (rowOK mM_adapt) = true := by
  have h : (cdM_adapt.drop 0).all (rowOK mM_adapt) = true := (all_cut 60 ckM_adapt_0 (by rw [List.drop_drop]; exact (all_cut 60 ckM_adapt_60 (by rw [List.drop_drop]; exact (all_cut 60 ckM_adapt_120 (by rw [List.drop_drop]; exact (by rw [show cdM_adapt.drop 180 = [] from rfl]; rfl)))))))
  exact h
def cdM_spotOf : List Row := [
  (0, 1, .iconst 0, 0, 0, 0, 0, 0, []),
  (1, 1, .istore_n 2, 0, 0, 0, 0, 0, []),
  (2, 1, .iconst 1, 0, 0, 0, 0, 1, []),
  (3, 1, .istore_n 3, 0, 0, 0, 0, 0, []),
  (4, 1, .iload_n 3, 0, 0, 0, 0, 0, []),
  (5, 1, .aload_n 0, 0, 0, 0, 0, 0, []),
  (6, 3, .invokevirtual 221, mM_cells, 0, 10, 190, 0, [(0, 1)]),
  (9, 3, .if_icmp .ge 27, 36, 0, 0, 0, 0, []),
  (12, 1, .aload_n 0, 0, 0, 0, 0, 0, []),
  (13, 1, .iload_n 3, 0, 0, 0, 0, 0, []),
  (14, 1, .iload_n 1, 0, 0, 0, 0, 0, []),
  (15, 3, .invokevirtual 214, mM_upper, 2, 10, 188, 0, [(0, 2)]),
  (18, 1, .aload_n 0, 0, 0, 0, 0, 0, []),
  (19, 1, .iload_n 2, 0, 0, 0, 0, 0, []),
  (20, 1, .iload_n 1, 0, 0, 0, 0, 0, []),
  (21, 3, .invokevirtual 214, mM_upper, 2, 10, 188, 0, [(0, 2)]),
  (24, 1, .lcmp, 0, 0, 0, 0, 0, []),
  (25, 3, .ifCond .ge 5, 30, 0, 0, 0, 0, []),
  (28, 1, .iload_n 3, 0, 0, 0, 0, 0, []),
  (29, 1, .istore_n 2, 0, 0, 0, 0, 0, []),
  (30, 3, .iinc 3 1, 0, 0, 0, 0, 1, []),
  (33, 3, .goto (-29), 4, 0, 0, 0, 0, []),
  (36, 1, .iload_n 2, 0, 0, 0, 0, 0, []),
  (37, 1, .ireturn, 0, 0, 0, 0, 0, [])]
theorem ckM_spotOf : cdM_spotOf.all (rowOK mM_spotOf) = true := by decide +kernel
def cdM_areBeside : List Row := [
  (0, 1, .iload_n 1, 0, 0, 0, 0, 0, []),
  (1, 1, .aload_n 0, 0, 0, 0, 0, 0, []),
  (2, 3, .invokevirtual 188, mM_wide, 0, 10, 180, 0, [(0, 1)]),
  (5, 1, .irem, 0, 0, 0, 0, 0, []),
  (6, 1, .iload_n 2, 0, 0, 0, 0, 0, []),
  (7, 1, .aload_n 0, 0, 0, 0, 0, 0, []),
  (8, 3, .invokevirtual 188, mM_wide, 0, 10, 180, 0, [(0, 1)]),
  (11, 1, .irem, 0, 0, 0, 0, 0, []),
  (12, 1, .isub, 0, 0, 0, 0, 0, []),
  (13, 3, .invokestatic 198, mM_size, 1, 0, 183, 0, [(0, 1)]),
  (16, 1, .istore_n 3, 0, 0, 0, 0, 0, []),
  (17, 1, .iload_n 1, 0, 0, 0, 0, 0, []),
  (18, 1, .aload_n 0, 0, 0, 0, 0, 0, []),
  (19, 3, .invokevirtual 188, mM_wide, 0, 10, 180, 0, [(0, 1)]),
  (22, 1, .idiv, 0, 0, 0, 0, 0, []),
  (23, 1, .iload_n 2, 0, 0, 0, 0, 0, []),
  (24, 1, .aload_n 0, 0, 0, 0, 0, 0, []),
  (25, 3, .invokevirtual 188, mM_wide, 0, 10, 180, 0, [(0, 1)]),
  (28, 1, .idiv, 0, 0, 0, 0, 0, []),
  (29, 1, .isub, 0, 0, 0, 0, 0, []),
  (30, 3, .invokestatic 198, mM_size, 1, 0, 183, 0, [(0, 1)]),
  (33, 2, .istore 4, 0, 0, 0, 0, 0, []),
  (35, 1, .iload_n 3, 0, 0, 0, 0, 0, []),
  (36, 2, .iload 4, 0, 0, 0, 0, 0, []),
  (38, 1, .iadd, 0, 0, 0, 0, 0, []),
  (39, 1, .iconst 1, 0, 0, 0, 0, 1, []),
  (40, 3, .if_icmp .ne 7, 47, 0, 0, 0, 0, []),
  (43, 1, .iconst 1, 0, 0, 0, 0, 1, []),
  (44, 3, .goto 4, 48, 0, 0, 0, 0, []),
  (47, 1, .iconst 0, 0, 0, 0, 0, 0, []),
  (48, 1, .ireturn, 0, 0, 1, 0, 0, [])]
theorem ckM_areBeside : cdM_areBeside.all (rowOK mM_areBeside) = true := by decide +kernel
def cdM_meets : List Row := [
  (0, 1, .iconst 1, 0, 0, 0, 0, 1, []),
  (1, 1, .istore_n 2, 0, 0, 0, 0, 0, []),
  (2, 1, .aload_n 0, 0, 0, 0, 0, 0, []),
  (3, 3, .getfield 57, 10, 30, 2, 137, 0, []),
  (6, 1, .iconst 0, 0, 0, 0, 0, 0, []),
  (7, 1, .iload_n 1, 0, 0, 0, 0, 0, []),
  (8, 1, .iastore, 0, 0, 0, 0, 0, []),
  (9, 1, .aload_n 0, 0, 0, 0, 0, 0, []),
  (10, 3, .getfield 60, 10, 31, 2, 138, 0, []),
  (13, 1, .iload_n 1, 0, 0, 0, 0, 0, []),
  (14, 1, .iconst 1, 0, 0, 0, 0, 1, []),
  (15, 1, .bastore, 0, 0, 0, 0, 0, []),
  (16, 1, .iconst 0, 0, 0, 0, 0, 0, []),
  (17, 1, .istore_n 3, 0, 0, 0, 0, 0, []),
  (18, 1, .iload_n 3, 0, 0, 0, 0, 0, []),
  (19, 1, .iload_n 2, 0, 0, 0, 0, 0, []),
  (20, 3, .if_icmp .ge 90, 110, 0, 0, 0, 0, []),
  (23, 1, .iconst 0, 0, 0, 0, 0, 0, []),
  (24, 2, .istore 4, 0, 0, 0, 0, 0, []),
  (26, 2, .iload 4, 0, 0, 0, 0, 0, []),
  (28, 1, .aload_n 0, 0, 0, 0, 0, 0, []),
  (29, 3, .invokevirtual 221, mM_cells, 0, 10, 190, 0, [(0, 1)]),
  (32, 3, .if_icmp .ge 72, 104, 0, 0, 0, 0, []),
  (35, 1, .aload_n 0, 0, 0, 0, 0, 0, []),
  (36, 3, .getfield 60, 10, 31, 2, 138, 0, []),
  (39, 2, .iload 4, 0, 0, 0, 0, 0, []),
  (41, 1, .baload, 0, 0, 0, 0, 0, []),
  (42, 3, .ifCond .ne 56, 98, 0, 0, 0, 0, []),
  (45, 1, .aload_n 0, 0, 0, 0, 0, 0, []),
  (46, 3, .getfield 29, 10, 19, 2, 128, 0, []),
  (49, 2, .iload 4, 0, 0, 0, 0, 0, []),
  (51, 1, .iaload, 0, 0, 0, 0, 0, []),
  (52, 1, .aload_n 0, 0, 0, 0, 0, 0, []),
  (53, 3, .getfield 29, 10, 19, 2, 128, 0, []),
  (56, 1, .iload_n 1, 0, 0, 0, 0, 0, []),
  (57, 1, .iaload, 0, 0, 0, 0, 0, []),
  (58, 3, .if_icmp .ne 40, 98, 0, 0, 0, 0, []),
  (61, 1, .aload_n 0, 0, 0, 0, 0, 0, []),
  (62, 1, .aload_n 0, 0, 0, 0, 0, 0, []),
  (63, 3, .getfield 57, 10, 30, 2, 137, 0, []),
  (66, 1, .iload_n 3, 0, 0, 0, 0, 0, []),
  (67, 1, .iaload, 0, 0, 0, 0, 0, []),
  (68, 2, .iload 4, 0, 0, 0, 0, 0, []),
  (70, 3, .invokevirtual 338, mM_areBeside, 2, 10, 220, 0, [(0, 1)]),
  (73, 3, .ifCond .ne 6, 79, 0, 0, 0, 0, []),
  (76, 3, .goto 22, 98, 0, 0, 0, 0, []),
  (79, 1, .aload_n 0, 0, 0, 0, 0, 0, []),
  (80, 3, .getfield 60, 10, 31, 2, 138, 0, []),
  (83, 2, .iload 4, 0, 0, 0, 0, 0, []),
  (85, 1, .iconst 1, 0, 0, 0, 0, 1, []),
  (86, 1, .bastore, 0, 0, 0, 0, 0, []),
  (87, 1, .aload_n 0, 0, 0, 0, 0, 0, []),
  (88, 3, .getfield 57, 10, 30, 2, 137, 0, []),
  (91, 1, .iload_n 2, 0, 0, 0, 0, 0, []),
  (92, 2, .iload 4, 0, 0, 0, 0, 0, []),
  (94, 1, .iastore, 0, 0, 0, 0, 0, []),
  (95, 3, .iinc 2 1, 0, 0, 0, 0, 1, []),
  (98, 3, .iinc 4 1, 0, 0, 0, 0, 1, []),
  (101, 3, .goto (-75), 26, 0, 0, 0, 0, []),
  (104, 3, .iinc 3 1, 0, 0, 0, 0, 1, []),
  (107, 3, .goto (-89), 18, 0, 0, 0, 0, []),
  (110, 1, .return_, 0, 0, 0, 0, 0, [])]
theorem ckM_meets : cdM_meets.all (rowOK mM_meets) = true := by decide +kernel
def cdM_piecesOf : List Row := [
  (0, 1, .iconst 0, 0, 0, 0, 0, 0, []),
  (1, 1, .istore_n 2, 0, 0, 0, 0, 0, []),
  (2, 1, .iload_n 2, 0, 0, 0, 0, 0, []),
  (3, 1, .aload_n 0, 0, 0, 0, 0, 0, []),
  (4, 3, .invokevirtual 221, mM_cells, 0, 10, 190, 0, [(0, 1)]),
  (7, 3, .if_icmp .ge 16, 23, 0, 0, 0, 0, []),
  (10, 1, .aload_n 0, 0, 0, 0, 0, 0, []),
  (11, 3, .getfield 60, 10, 31, 2, 138, 0, []),
  (14, 1, .iload_n 2, 0, 0, 0, 0, 0, []),
  (15, 1, .iconst 0, 0, 0, 0, 0, 0, []),
  (16, 1, .bastore, 0, 0, 0, 0, 0, []),
  (17, 3, .iinc 2 1, 0, 0, 0, 0, 1, []),
  (20, 3, .goto (-18), 2, 0, 0, 0, 0, []),
  (23, 1, .iconst 0, 0, 0, 0, 0, 0, []),
  (24, 1, .istore_n 2, 0, 0, 0, 0, 0, []),
  (25, 1, .iconst 0, 0, 0, 0, 0, 0, []),
  (26, 1, .istore_n 3, 0, 0, 0, 0, 0, []),
  (27, 1, .iload_n 3, 0, 0, 0, 0, 0, []),
  (28, 1, .aload_n 0, 0, 0, 0, 0, 0, []),
  (29, 3, .invokevirtual 221, mM_cells, 0, 10, 190, 0, [(0, 1)]),
  (32, 3, .if_icmp .ge 39, 71, 0, 0, 0, 0, []),
  (35, 1, .aload_n 0, 0, 0, 0, 0, 0, []),
  (36, 3, .getfield 29, 10, 19, 2, 128, 0, []),
  (39, 1, .iload_n 3, 0, 0, 0, 0, 0, []),
  (40, 1, .iaload, 0, 0, 0, 0, 0, []),
  (41, 1, .iload_n 1, 0, 0, 0, 0, 0, []),
  (42, 3, .if_icmp .ne 23, 65, 0, 0, 0, 0, []),
  (45, 1, .aload_n 0, 0, 0, 0, 0, 0, []),
  (46, 3, .getfield 60, 10, 31, 2, 138, 0, []),
  (49, 1, .iload_n 3, 0, 0, 0, 0, 0, []),
  (50, 1, .baload, 0, 0, 0, 0, 0, []),
  (51, 3, .ifCond .eq 6, 57, 0, 0, 0, 0, []),
  (54, 3, .goto 11, 65, 0, 0, 0, 0, []),
  (57, 1, .aload_n 0, 0, 0, 0, 0, 0, []),
  (58, 1, .iload_n 3, 0, 0, 0, 0, 0, []),
  (59, 3, .invokevirtual 341, mM_meets, 1, 10, 221, 0, [(0, 0)]),
  (62, 3, .iinc 2 1, 0, 0, 0, 0, 1, []),
  (65, 3, .iinc 3 1, 0, 0, 0, 0, 1, []),
  (68, 3, .goto (-41), 27, 0, 0, 0, 0, []),
  (71, 1, .iload_n 2, 0, 0, 0, 0, 0, []),
  (72, 1, .ireturn, 0, 0, 0, 0, 0, [])]
theorem ckM_piecesOf : cdM_piecesOf.all (rowOK mM_piecesOf) = true := by decide +kernel
end
section
/-! ===== code as rows ===== -/
def cdM_costOf : List Row := [
  (0, 1, .lconst 0, 0, 0, 0, 0, 0, []),
  (1, 1, .lstore_n 2, 0, 0, 0, 0, 0, []),
  (2, 1, .iconst 0, 0, 0, 0, 0, 0, []),
  (3, 2, .istore 4, 0, 0, 0, 0, 0, []),
  (5, 2, .iload 4, 0, 0, 0, 0, 0, []),
  (7, 1, .aload_n 0, 0, 0, 0, 0, 0, []),
  (8, 3, .invokevirtual 221, mM_cells, 0, 10, 190, 0, [(0, 1)]),
  (11, 3, .if_icmp .ge 34, 45, 0, 0, 0, 0, []),
  (14, 1, .lload_n 2, 0, 0, 0, 0, 0, []),
  (15, 1, .aload_n 0, 0, 0, 0, 0, 0, []),
  (16, 3, .getfield 29, 10, 19, 2, 128, 0, []),
  (19, 2, .iload 4, 0, 0, 0, 0, 0, []),
  (21, 1, .iaload, 0, 0, 0, 0, 0, []),
  (22, 1, .iload_n 1, 0, 0, 0, 0, 0, []),
  (23, 3, .if_icmp .ne 13, 36, 0, 0, 0, 0, []),
  (26, 1, .aload_n 0, 0, 0, 0, 0, 0, []),
  (27, 2, .iload 4, 0, 0, 0, 0, 0, []),
  (29, 1, .iload_n 1, 0, 0, 0, 0, 0, []),
  (30, 3, .invokevirtual 236, mM_costBy, 2, 10, 194, 0, [(0, 2)]),
  (33, 3, .goto 4, 37, 0, 0, 0, 0, []),
  (36, 1, .lconst 0, 0, 0, 0, 0, 0, []),
  (37, 1, .ladd, 0, 0, 0, 0, 0, []),
  (38, 1, .lstore_n 2, 0, 0, 0, 0, 0, []),
  (39, 3, .iinc 4 1, 0, 0, 0, 0, 1, []),
  (42, 3, .goto (-37), 5, 0, 0, 0, 0, []),
  (45, 1, .lload_n 2, 0, 0, 0, 0, 0, []),
  (46, 1, .l2i, 0, 0, 0, 0, 0, []),
  (47, 1, .ireturn, 0, 0, 0, 0, 0, [])]
theorem ckM_costOf : cdM_costOf.all (rowOK mM_costOf) = true := by decide +kernel
def cdM_dot : List Row := [
  (0, 1, .aload_n 0, 0, 0, 0, 0, 0, []),
  (1, 1, .iload_n 1, 0, 0, 0, 0, 0, []),
  (2, 3, .invokevirtual 260, mM_isDot, 1, 10, 201, 0, [(0, 1)]),
  (5, 3, .ifCond .ne 5, 10, 0, 0, 0, 0, []),
  (8, 1, .iconst (-1), 0, 0, 0, 0, (-1), []),
  (9, 1, .ireturn, 0, 0, 0, 0, 0, []),
  (10, 1, .aload_n 0, 0, 0, 0, 0, 0, []),
  (11, 3, .invokevirtual 299, mM_laysLoads, 0, 10, 210, 0, [(0, 0)]),
  (14, 1, .iconst 0, 0, 0, 0, 0, 0, []),
  (15, 1, .istore_n 3, 0, 0, 0, 0, 0, []),
  (16, 1, .iconst 0, 0, 0, 0, 0, 0, []),
  (17, 2, .istore 4, 0, 0, 0, 0, 0, []),
  (19, 2, .iload 4, 0, 0, 0, 0, 0, []),
  (21, 1, .aload_n 0, 0, 0, 0, 0, 0, []),
  (22, 3, .invokevirtual 221, mM_cells, 0, 10, 190, 0, [(0, 1)]),
  (25, 3, .if_icmp .ge 31, 56, 0, 0, 0, 0, []),
  (28, 1, .iload_n 3, 0, 0, 0, 0, 0, []),
  (29, 1, .aload_n 0, 0, 0, 0, 0, 0, []),
  (30, 3, .getfield 29, 10, 19, 2, 128, 0, []),
  (33, 2, .iload 4, 0, 0, 0, 0, 0, []),
  (35, 1, .iaload, 0, 0, 0, 0, 0, []),
  (36, 1, .iload_n 1, 0, 0, 0, 0, 0, []),
  (37, 3, .if_icmp .ne 7, 44, 0, 0, 0, 0, []),
  (40, 1, .iconst 1, 0, 0, 0, 0, 1, []),
  (41, 3, .goto 4, 45, 0, 0, 0, 0, []),
  (44, 1, .iconst 0, 0, 0, 0, 0, 0, []),
  (45, 3, .invokestatic 284, mM_truth, 1, 0, 206, 0, [(0, 1)]),
  (48, 1, .iadd, 0, 0, 0, 0, 0, []),
  (49, 1, .istore_n 3, 0, 0, 0, 0, 0, []),
  (50, 3, .iinc 4 1, 0, 0, 0, 0, 1, []),
  (53, 3, .goto (-34), 19, 0, 0, 0, 0, []),
  (56, 1, .iload_n 2, 0, 0, 0, 0, 0, []),
  (57, 47, .tableswitch 93 0 7 #[47, 53, 59, 66, 68, 75, 81, 87], 150, 0, 0, 0, 0, [(0, 104), (1, 110), (2, 116), (3, 123), (4, 125), (5, 132), (6, 138), (7, 144)]),
  (104, 1, .aload_n 0, 0, 0, 0, 0, 0, []),
  (105, 1, .iload_n 1, 0, 0, 0, 0, 0, []),
  (106, 3, .invokevirtual 208, mM_xOf, 1, 10, 186, 0, [(0, 1)]),
  (109, 1, .ireturn, 0, 0, 0, 0, 0, []),
  (110, 1, .aload_n 0, 0, 0, 0, 0, 0, []),
  (111, 1, .iload_n 1, 0, 0, 0, 0, 0, []),
  (112, 3, .invokevirtual 211, mM_yOf, 1, 10, 187, 0, [(0, 1)]),
  (115, 1, .ireturn, 0, 0, 0, 0, 0, []),
  (116, 1, .aload_n 0, 0, 0, 0, 0, 0, []),
  (117, 1, .iload_n 1, 0, 0, 0, 0, 0, []),
  (118, 3, .invokevirtual 204, mM_under, 1, 10, 185, 0, [(0, 2)]),
  (121, 1, .l2i, 0, 0, 0, 0, 0, []),
  (122, 1, .ireturn, 0, 0, 0, 0, 0, []),
  (123, 1, .iload_n 3, 0, 0, 0, 0, 0, []),
  (124, 1, .ireturn, 0, 0, 0, 0, 0, []),
  (125, 1, .aload_n 0, 0, 0, 0, 0, 0, []),
  (126, 3, .getfield 32, 10, 20, 2, 129, 0, []),
  (129, 1, .iload_n 1, 0, 0, 0, 0, 0, []),
  (130, 1, .iaload, 0, 0, 0, 0, 0, []),
  (131, 1, .ireturn, 0, 0, 0, 0, 0, []),
  (132, 1, .aload_n 0, 0, 0, 0, 0, 0, []),
  (133, 1, .iload_n 1, 0, 0, 0, 0, 0, []),
  (134, 3, .invokevirtual 344, mM_costOf, 1, 10, 222, 0, [(0, 1)]),
  (137, 1, .ireturn, 0, 0, 0, 0, 0, []),
  (138, 1, .aload_n 0, 0, 0, 0, 0, 0, []),
  (139, 1, .iload_n 1, 0, 0, 0, 0, 0, []),
  (140, 3, .invokevirtual 347, mM_spotOf, 1, 10, 223, 0, [(0, 1)]),
  (143, 1, .ireturn, 0, 0, 0, 0, 0, []),
  (144, 1, .aload_n 0, 0, 0, 0, 0, 0, []),
  (145, 1, .iload_n 1, 0, 0, 0, 0, 0, []),
  (146, 3, .invokevirtual 350, mM_piecesOf, 1, 10, 224, 0, [(0, 1)]),
  (149, 1, .ireturn, 0, 0, 0, 0, 0, []),
  (150, 1, .iconst (-1), 0, 0, 0, 0, (-1), []),
  (151, 1, .ireturn, 0, 0, 0, 0, 0, [])]
theorem ckM_dot : cdM_dot.all (rowOK mM_dot) = true := by decide +kernel
def cdM_spotsAt : List Row := [
  (0, 1, .iconst 0, 0, 0, 0, 0, 0, []),
  (1, 1, .istore_n 2, 0, 0, 0, 0, 0, []),
  (2, 1, .iconst 0, 0, 0, 0, 0, 0, []),
  (3, 1, .istore_n 3, 0, 0, 0, 0, 0, []),
  (4, 1, .iload_n 3, 0, 0, 0, 0, 0, []),
  (5, 1, .aload_n 0, 0, 0, 0, 0, 0, []),
  (6, 3, .invokevirtual 195, mM_dots, 0, 10, 182, 0, [(0, 1)]),
  (9, 3, .if_icmp .ge 29, 38, 0, 0, 0, 0, []),
  (12, 1, .iload_n 2, 0, 0, 0, 0, 0, []),
  (13, 1, .aload_n 0, 0, 0, 0, 0, 0, []),
  (14, 1, .iload_n 3, 0, 0, 0, 0, 0, []),
  (15, 3, .invokevirtual 347, mM_spotOf, 1, 10, 223, 0, [(0, 1)]),
  (18, 1, .iload_n 1, 0, 0, 0, 0, 0, []),
  (19, 3, .if_icmp .ne 7, 26, 0, 0, 0, 0, []),
  (22, 1, .iconst 1, 0, 0, 0, 0, 1, []),
  (23, 3, .goto 4, 27, 0, 0, 0, 0, []),
  (26, 1, .iconst 0, 0, 0, 0, 0, 0, []),
  (27, 3, .invokestatic 284, mM_truth, 1, 0, 206, 0, [(0, 1)]),
  (30, 1, .iadd, 0, 0, 0, 0, 0, []),
  (31, 1, .istore_n 2, 0, 0, 0, 0, 0, []),
  (32, 3, .iinc 3 1, 0, 0, 0, 0, 1, []),
  (35, 3, .goto (-31), 4, 0, 0, 0, 0, []),
  (38, 1, .iload_n 2, 0, 0, 0, 0, 0, []),
  (39, 1, .ireturn, 0, 0, 0, 0, 0, [])]
theorem ckM_spotsAt : cdM_spotsAt.all (rowOK mM_spotsAt) = true := by decide +kernel
def cdM_cell : List Row := [
  (0, 1, .aload_n 0, 0, 0, 0, 0, 0, []),
  (1, 1, .iload_n 1, 0, 0, 0, 0, 0, []),
  (2, 1, .iload_n 2, 0, 0, 0, 0, 0, []),
  (3, 3, .invokevirtual 249, mM_isCell, 2, 10, 198, 0, [(0, 1)]),
  (6, 3, .ifCond .ne 5, 11, 0, 0, 0, 0, []),
  (9, 1, .iconst (-1), 0, 0, 0, 0, (-1), []),
  (10, 1, .ireturn, 0, 0, 0, 0, 0, []),
  (11, 1, .aload_n 0, 0, 0, 0, 0, 0, []),
  (12, 1, .iload_n 1, 0, 0, 0, 0, 0, []),
  (13, 1, .iload_n 2, 0, 0, 0, 0, 0, []),
  (14, 3, .invokevirtual 293, mM_numberOf, 2, 10, 208, 0, [(0, 1)]),
  (17, 2, .istore 4, 0, 0, 0, 0, 0, []),
  (19, 1, .iload_n 3, 0, 0, 0, 0, 0, []),
  (20, 32, .tableswitch 69 0 3 #[32, 39, 47, 62], 89, 0, 0, 0, 0, [(0, 52), (1, 59), (2, 67), (3, 82)]),
  (52, 1, .aload_n 0, 0, 0, 0, 0, 0, []),
  (53, 2, .iload 4, 0, 0, 0, 0, 0, []),
  (55, 3, .invokevirtual 233, mM_weight, 1, 10, 193, 0, [(0, 1)]),
  (58, 1, .ireturn, 0, 0, 0, 0, 0, []),
  (59, 1, .aload_n 0, 0, 0, 0, 0, 0, []),
  (60, 2, .iload 4, 0, 0, 0, 0, 0, []),
  (62, 1, .iconst (-1), 0, 0, 0, 0, (-1), []),
  (63, 3, .invokevirtual 224, mM_ownerBut, 2, 10, 191, 0, [(0, 1)]),
  (66, 1, .ireturn, 0, 0, 0, 0, 0, []),
  (67, 1, .aload_n 0, 0, 0, 0, 0, 0, []),
  (68, 2, .iload 4, 0, 0, 0, 0, 0, []),
  (70, 1, .aload_n 0, 0, 0, 0, 0, 0, []),
  (71, 2, .iload 4, 0, 0, 0, 0, 0, []),
  (73, 1, .iconst (-1), 0, 0, 0, 0, (-1), []),
  (74, 3, .invokevirtual 224, mM_ownerBut, 2, 10, 191, 0, [(0, 1)]),
  (77, 3, .invokevirtual 236, mM_costBy, 2, 10, 194, 0, [(0, 2)]),
  (80, 1, .l2i, 0, 0, 0, 0, 0, []),
  (81, 1, .ireturn, 0, 0, 0, 0, 0, []),
  (82, 1, .aload_n 0, 0, 0, 0, 0, 0, []),
  (83, 2, .iload 4, 0, 0, 0, 0, 0, []),
  (85, 3, .invokevirtual 353, mM_spotsAt, 1, 10, 225, 0, [(0, 1)]),
  (88, 1, .ireturn, 0, 0, 0, 0, 0, []),
  (89, 1, .iconst (-1), 0, 0, 0, 0, (-1), []),
  (90, 1, .ireturn, 0, 0, 0, 0, 0, [])]
theorem ckM_cell : cdM_cell.all (rowOK mM_cell) = true := by decide +kernel
def cdM_near : List Row := [
  (0, 1, .aload_n 0, 0, 0, 0, 0, 0, []),
  (1, 1, .iload_n 1, 0, 0, 0, 0, 0, []),
  (2, 1, .iload_n 2, 0, 0, 0, 0, 0, []),
  (3, 3, .invokevirtual 249, mM_isCell, 2, 10, 198, 0, [(0, 1)]),
  (6, 3, .ifCond .eq 19, 25, 0, 0, 0, 0, []),
  (9, 1, .iload_n 3, 0, 0, 0, 0, 0, []),
  (10, 1, .i2l, 0, 0, 0, 0, 0, []),
  (11, 1, .lconst 0, 0, 0, 0, 0, 0, []),
  (12, 1, .aload_n 0, 0, 0, 0, 0, 0, []),
  (13, 3, .invokevirtual 195, mM_dots, 0, 10, 182, 0, [(0, 1)]),
  (16, 1, .iconst 1, 0, 0, 0, 0, 1, []),
  (17, 1, .isub, 0, 0, 0, 0, 0, []),
  (18, 1, .i2l, 0, 0, 0, 0, 0, []),
  (19, 3, .invokestatic 94, mM_isIn, 3, 0, 166, 0, [(0, 1)]),
  (22, 3, .ifCond .ne 5, 27, 0, 0, 0, 0, []),
  (25, 1, .iconst (-1), 0, 0, 0, 0, (-1), []),
  (26, 1, .ireturn, 0, 0, 0, 0, 0, []),
  (27, 1, .aload_n 0, 0, 0, 0, 0, 0, []),
  (28, 1, .iload_n 1, 0, 0, 0, 0, 0, []),
  (29, 1, .iload_n 2, 0, 0, 0, 0, 0, []),
  (30, 3, .invokevirtual 293, mM_numberOf, 2, 10, 208, 0, [(0, 1)]),
  (33, 2, .istore 4, 0, 0, 0, 0, 0, []),
  (35, 1, .iconst 0, 0, 0, 0, 0, 0, []),
  (36, 2, .istore 5, 0, 0, 0, 0, 0, []),
  (38, 2, .iload 5, 0, 0, 0, 0, 0, []),
  (40, 1, .aload_n 0, 0, 0, 0, 0, 0, []),
  (41, 3, .invokevirtual 195, mM_dots, 0, 10, 182, 0, [(0, 1)]),
  (44, 3, .if_icmp .ge 85, 129, 0, 0, 0, 0, []),
  (47, 1, .iconst 0, 0, 0, 0, 0, 0, []),
  (48, 2, .istore 6, 0, 0, 0, 0, 0, []),
  (50, 1, .iconst 0, 0, 0, 0, 0, 0, []),
  (51, 2, .istore 7, 0, 0, 0, 0, 0, []),
  (53, 2, .iload 7, 0, 0, 0, 0, 0, []),
  (55, 1, .aload_n 0, 0, 0, 0, 0, 0, []),
  (56, 3, .invokevirtual 195, mM_dots, 0, 10, 182, 0, [(0, 1)]),
  (59, 3, .if_icmp .ge 55, 114, 0, 0, 0, 0, []),
  (62, 2, .iload 6, 0, 0, 0, 0, 0, []),
  (64, 1, .aload_n 0, 0, 0, 0, 0, 0, []),
  (65, 2, .iload 4, 0, 0, 0, 0, 0, []),
  (67, 2, .iload 7, 0, 0, 0, 0, 0, []),
  (69, 2, .iload 5, 0, 0, 0, 0, 0, []),
  (71, 3, .invokevirtual 227, mM_isNearer, 3, 10, 192, 0, [(0, 1)]),
  (74, 3, .ifCond .ne 23, 97, 0, 0, 0, 0, []),
  (77, 2, .iload 7, 0, 0, 0, 0, 0, []),
  (79, 2, .iload 5, 0, 0, 0, 0, 0, []),
  (81, 3, .if_icmp .ge 20, 101, 0, 0, 0, 0, []),
  (84, 1, .aload_n 0, 0, 0, 0, 0, 0, []),
  (85, 2, .iload 4, 0, 0, 0, 0, 0, []),
  (87, 2, .iload 5, 0, 0, 0, 0, 0, []),
  (89, 2, .iload 7, 0, 0, 0, 0, 0, []),
  (91, 3, .invokevirtual 227, mM_isNearer, 3, 10, 192, 0, [(0, 1)]),
  (94, 3, .ifCond .ne 7, 101, 0, 0, 0, 0, []),
  (97, 1, .iconst 1, 0, 0, 0, 0, 1, []),
  (98, 3, .goto 4, 102, 0, 0, 0, 0, []),
  (101, 1, .iconst 0, 0, 0, 0, 0, 0, []),
  (102, 3, .invokestatic 284, mM_truth, 1, 0, 206, 0, [(0, 1)]),
  (105, 1, .iadd, 0, 0, 0, 0, 0, []),
  (106, 2, .istore 6, 0, 0, 0, 0, 0, []),
  (108, 3, .iinc 7 1, 0, 0, 0, 0, 1, []),
  (111, 3, .goto (-58), 53, 0, 0, 0, 0, []),
  (114, 2, .iload 6, 0, 0, 0, 0, 0, []),
  (116, 1, .iload_n 3, 0, 0, 0, 0, 0, []),
  (117, 3, .if_icmp .ne 6, 123, 0, 0, 0, 0, []),
  (120, 2, .iload 5, 0, 0, 0, 0, 0, []),
  (122, 1, .ireturn, 0, 0, 0, 0, 0, []),
  (123, 3, .iinc 5 1, 0, 0, 0, 0, 1, []),
  (126, 3, .goto (-88), 38, 0, 0, 0, 0, []),
  (129, 1, .iconst (-1), 0, 0, 0, 0, (-1), []),
  (130, 1, .ireturn, 0, 0, 0, 0, 0, [])]
theorem ckM_near : cdM_near.all (rowOK mM_near) = true := by decide +kernel
def cdM_far : List Row := [
  (0, 1, .aload_n 0, 0, 0, 0, 0, 0, []),
  (1, 1, .iload_n 1, 0, 0, 0, 0, 0, []),
  (2, 1, .iload_n 2, 0, 0, 0, 0, 0, []),
  (3, 3, .invokevirtual 249, mM_isCell, 2, 10, 198, 0, [(0, 1)]),
  (6, 3, .ifCond .eq 11, 17, 0, 0, 0, 0, []),
  (9, 1, .aload_n 0, 0, 0, 0, 0, 0, []),
  (10, 1, .iload_n 3, 0, 0, 0, 0, 0, []),
  (11, 3, .invokevirtual 260, mM_isDot, 1, 10, 201, 0, [(0, 1)]),
  (14, 3, .ifCond .ne 5, 19, 0, 0, 0, 0, []),
  (17, 1, .iconst (-1), 0, 0, 0, 0, (-1), []),
  (18, 1, .ireturn, 0, 0, 0, 0, 0, []),
  (19, 1, .aload_n 0, 0, 0, 0, 0, 0, []),
  (20, 1, .aload_n 0, 0, 0, 0, 0, 0, []),
  (21, 1, .iload_n 1, 0, 0, 0, 0, 0, []),
  (22, 1, .iload_n 2, 0, 0, 0, 0, 0, []),
  (23, 3, .invokevirtual 293, mM_numberOf, 2, 10, 208, 0, [(0, 1)]),
  (26, 1, .iload_n 3, 0, 0, 0, 0, 0, []),
  (27, 3, .invokevirtual 214, mM_upper, 2, 10, 188, 0, [(0, 2)]),
  (30, 2, .lstore 5, 0, 0, 0, 0, 0, []),
  (32, 2, .iload 4, 0, 0, 0, 0, 0, []),
  (34, 3, .ifCond .ne 15, 49, 0, 0, 0, 0, []),
  (37, 2, .lload 5, 0, 0, 0, 0, 0, []),
  (39, 1, .aload_n 0, 0, 0, 0, 0, 0, []),
  (40, 1, .iload_n 3, 0, 0, 0, 0, 0, []),
  (41, 3, .invokevirtual 218, mM_lower, 1, 10, 189, 0, [(0, 2)]),
  (44, 1, .ldiv, 0, 0, 0, 0, 0, []),
  (45, 1, .l2i, 0, 0, 0, 0, 0, []),
  (46, 3, .goto 32, 78, 0, 0, 0, 0, []),
  (49, 2, .iload 4, 0, 0, 0, 0, 0, []),
  (51, 1, .iconst 1, 0, 0, 0, 0, 1, []),
  (52, 3, .if_icmp .ne 25, 77, 0, 0, 0, 0, []),
  (55, 2, .lload 5, 0, 0, 0, 0, 0, []),
  (57, 1, .aload_n 0, 0, 0, 0, 0, 0, []),
  (58, 1, .iload_n 3, 0, 0, 0, 0, 0, []),
  (59, 3, .invokevirtual 218, mM_lower, 1, 10, 189, 0, [(0, 2)]),
  (62, 1, .lrem, 0, 0, 0, 0, 0, []),
  (63, 3, .ldc2_w 231, 1000, 0, 0, 9, 0, []),
  (66, 1, .lmul, 0, 0, 0, 0, 0, []),
  (67, 1, .aload_n 0, 0, 0, 0, 0, 0, []),
  (68, 1, .iload_n 3, 0, 0, 0, 0, 0, []),
  (69, 3, .invokevirtual 218, mM_lower, 1, 10, 189, 0, [(0, 2)]),
  (72, 1, .ldiv, 0, 0, 0, 0, 0, []),
  (73, 1, .l2i, 0, 0, 0, 0, 0, []),
  (74, 3, .goto 4, 78, 0, 0, 0, 0, []),
  (77, 1, .iconst (-1), 0, 0, 0, 0, (-1), []),
  (78, 1, .ireturn, 0, 0, 0, 0, 0, [])]
theorem ckM_far : cdM_far.all (rowOK mM_far) = true := by decide +kernel
def cdM_around : List Row := [
  (0, 1, .aload_n 0, 0, 0, 0, 0, 0, []),
  (1, 1, .iload_n 1, 0, 0, 0, 0, 0, []),
  (2, 1, .iload_n 2, 0, 0, 0, 0, 0, []),
  (3, 3, .invokevirtual 249, mM_isCell, 2, 10, 198, 0, [(0, 1)]),
  (6, 3, .ifCond .eq 15, 21, 0, 0, 0, 0, []),
  (9, 1, .iload_n 3, 0, 0, 0, 0, 0, []),
  (10, 1, .i2l, 0, 0, 0, 0, 0, []),
  (11, 1, .lconst 0, 0, 0, 0, 0, 0, []),
  (12, 3, .ldc2_w 356, 30, 0, 0, 17, 0, []),
  (15, 3, .invokestatic 94, mM_isIn, 3, 0, 166, 0, [(0, 1)]),
  (18, 3, .ifCond .ne 5, 23, 0, 0, 0, 0, []),
  (21, 1, .iconst (-1), 0, 0, 0, 0, (-1), []),
  (22, 1, .ireturn, 0, 0, 0, 0, 0, []),
  (23, 1, .iconst 0, 0, 0, 0, 0, 0, []),
  (24, 2, .istore 4, 0, 0, 0, 0, 0, []),
  (26, 1, .iconst 0, 0, 0, 0, 0, 0, []),
  (27, 2, .istore 5, 0, 0, 0, 0, 0, []),
  (29, 2, .iload 5, 0, 0, 0, 0, 0, []),
  (31, 1, .aload_n 0, 0, 0, 0, 0, 0, []),
  (32, 3, .invokevirtual 195, mM_dots, 0, 10, 182, 0, [(0, 1)]),
  (35, 3, .if_icmp .ge 50, 85, 0, 0, 0, 0, []),
  (38, 2, .iload 4, 0, 0, 0, 0, 0, []),
  (40, 1, .aload_n 0, 0, 0, 0, 0, 0, []),
  (41, 1, .aload_n 0, 0, 0, 0, 0, 0, []),
  (42, 1, .iload_n 1, 0, 0, 0, 0, 0, []),
  (43, 1, .iload_n 2, 0, 0, 0, 0, 0, []),
  (44, 3, .invokevirtual 293, mM_numberOf, 2, 10, 208, 0, [(0, 1)]),
  (47, 2, .iload 5, 0, 0, 0, 0, 0, []),
  (49, 3, .invokevirtual 214, mM_upper, 2, 10, 188, 0, [(0, 2)]),
  (52, 1, .aload_n 0, 0, 0, 0, 0, 0, []),
  (53, 2, .iload 5, 0, 0, 0, 0, 0, []),
  (55, 3, .invokevirtual 218, mM_lower, 1, 10, 189, 0, [(0, 2)]),
  (58, 1, .iload_n 3, 0, 0, 0, 0, 0, []),
  (59, 1, .i2l, 0, 0, 0, 0, 0, []),
  (60, 1, .lmul, 0, 0, 0, 0, 0, []),
  (61, 1, .iload_n 3, 0, 0, 0, 0, 0, []),
  (62, 1, .i2l, 0, 0, 0, 0, 0, []),
  (63, 1, .lmul, 0, 0, 0, 0, 0, []),
  (64, 1, .lcmp, 0, 0, 0, 0, 0, []),
  (65, 3, .ifCond .gt 7, 72, 0, 0, 0, 0, []),
  (68, 1, .iconst 1, 0, 0, 0, 0, 1, []),
  (69, 3, .goto 4, 73, 0, 0, 0, 0, []),
  (72, 1, .iconst 0, 0, 0, 0, 0, 0, []),
  (73, 3, .invokestatic 284, mM_truth, 1, 0, 206, 0, [(0, 1)]),
  (76, 1, .iadd, 0, 0, 0, 0, 0, []),
  (77, 2, .istore 4, 0, 0, 0, 0, 0, []),
  (79, 3, .iinc 5 1, 0, 0, 0, 0, 1, []),
  (82, 3, .goto (-53), 29, 0, 0, 0, 0, []),
  (85, 2, .iload 4, 0, 0, 0, 0, 0, []),
  (87, 1, .ireturn, 0, 0, 0, 0, 0, [])]
theorem ckM_around : cdM_around.all (rowOK mM_around) = true := by decide +kernel
def cdM_ring : List Row := [
  (0, 1, .aload_n 0, 0, 0, 0, 0, 0, []),
  (1, 1, .iload_n 1, 0, 0, 0, 0, 0, []),
  (2, 1, .iload_n 2, 0, 0, 0, 0, 0, []),
  (3, 3, .invokevirtual 249, mM_isCell, 2, 10, 198, 0, [(0, 1)]),
  (6, 3, .ifCond .eq 10, 16, 0, 0, 0, 0, []),
  (9, 1, .aload_n 0, 0, 0, 0, 0, 0, []),
  (10, 3, .invokevirtual 195, mM_dots, 0, 10, 182, 0, [(0, 1)]),
  (13, 3, .ifCond .ne 5, 18, 0, 0, 0, 0, []),
  (16, 1, .iconst (-1), 0, 0, 0, 0, (-1), []),
  (17, 1, .ireturn, 0, 0, 0, 0, 0, []),
  (18, 1, .aload_n 0, 0, 0, 0, 0, 0, []),
  (19, 1, .aload_n 0, 0, 0, 0, 0, 0, []),
  (20, 1, .iload_n 1, 0, 0, 0, 0, 0, []),
  (21, 1, .iload_n 2, 0, 0, 0, 0, 0, []),
  (22, 3, .invokevirtual 293, mM_numberOf, 2, 10, 208, 0, [(0, 1)]),
  (25, 1, .iconst (-1), 0, 0, 0, 0, (-1), []),
  (26, 3, .invokevirtual 224, mM_ownerBut, 2, 10, 191, 0, [(0, 1)]),
  (29, 1, .istore_n 3, 0, 0, 0, 0, 0, []),
  (30, 1, .aload_n 0, 0, 0, 0, 0, 0, []),
  (31, 1, .iload_n 3, 0, 0, 0, 0, 0, []),
  (32, 3, .invokevirtual 208, mM_xOf, 1, 10, 186, 0, [(0, 1)]),
  (35, 1, .i2l, 0, 0, 0, 0, 0, []),
  (36, 1, .aload_n 0, 0, 0, 0, 0, 0, []),
  (37, 1, .iload_n 3, 0, 0, 0, 0, 0, []),
  (38, 3, .invokevirtual 204, mM_under, 1, 10, 185, 0, [(0, 2)]),
  (41, 1, .ldiv, 0, 0, 0, 0, 0, []),
  (42, 1, .l2i, 0, 0, 0, 0, 0, []),
  (43, 1, .iload_n 1, 0, 0, 0, 0, 0, []),
  (44, 1, .isub, 0, 0, 0, 0, 0, []),
  (45, 3, .invokestatic 198, mM_size, 1, 0, 183, 0, [(0, 1)]),
  (48, 1, .aload_n 0, 0, 0, 0, 0, 0, []),
  (49, 1, .iload_n 3, 0, 0, 0, 0, 0, []),
  (50, 3, .invokevirtual 211, mM_yOf, 1, 10, 187, 0, [(0, 1)]),
  (53, 1, .i2l, 0, 0, 0, 0, 0, []),
  (54, 1, .aload_n 0, 0, 0, 0, 0, 0, []),
  (55, 1, .iload_n 3, 0, 0, 0, 0, 0, []),
  (56, 3, .invokevirtual 204, mM_under, 1, 10, 185, 0, [(0, 2)]),
  (59, 1, .ldiv, 0, 0, 0, 0, 0, []),
  (60, 1, .l2i, 0, 0, 0, 0, 0, []),
  (61, 1, .iload_n 2, 0, 0, 0, 0, 0, []),
  (62, 1, .isub, 0, 0, 0, 0, 0, []),
  (63, 3, .invokestatic 198, mM_size, 1, 0, 183, 0, [(0, 1)]),
  (66, 3, .invokestatic 358, mM_greater, 2, 0, 226, 0, [(0, 1)]),
  (69, 1, .ireturn, 0, 0, 0, 0, 0, [])]
theorem ckM_ring : cdM_ring.all (rowOK mM_ring) = true := by decide +kernel
def cdM_closest : List Row := [
  (0, 1, .aload_n 0, 0, 0, 0, 0, 0, []),
  (1, 3, .invokevirtual 195, mM_dots, 0, 10, 182, 0, [(0, 1)]),
  (4, 1, .iconst 2, 0, 0, 0, 0, 2, []),
  (5, 3, .if_icmp .lt 15, 20, 0, 0, 0, 0, []),
  (8, 1, .iload_n 1, 0, 0, 0, 0, 0, []),
  (9, 1, .i2l, 0, 0, 0, 0, 0, []),
  (10, 1, .lconst 0, 0, 0, 0, 0, 0, []),
  (11, 3, .ldc2_w 361, 2, 0, 0, 18, 0, []),
  (14, 3, .invokestatic 94, mM_isIn, 3, 0, 166, 0, [(0, 1)]),
  (17, 3, .ifCond .ne 5, 22, 0, 0, 0, 0, []),
  (20, 1, .iconst (-1), 0, 0, 0, 0, (-1), []),
  (21, 1, .ireturn, 0, 0, 0, 0, 0, []),
  (22, 1, .iconst (-1), 0, 0, 0, 0, (-1), []),
  (23, 1, .istore_n 2, 0, 0, 0, 0, 0, []),
  (24, 1, .iconst 0, 0, 0, 0, 0, 0, []),
  (25, 1, .istore_n 3, 0, 0, 0, 0, 0, []),
  (26, 1, .iconst 0, 0, 0, 0, 0, 0, []),
  (27, 2, .istore 4, 0, 0, 0, 0, 0, []),
  (29, 1, .iconst 0, 0, 0, 0, 0, 0, []),
  (30, 2, .istore 5, 0, 0, 0, 0, 0, []),
  (32, 2, .iload 5, 0, 0, 0, 0, 0, []),
  (34, 1, .aload_n 0, 0, 0, 0, 0, 0, []),
  (35, 3, .invokevirtual 195, mM_dots, 0, 10, 182, 0, [(0, 1)]),
  (38, 3, .if_icmp .ge 99, 137, 0, 0, 0, 0, []),
  (41, 2, .iload 5, 0, 0, 0, 0, 0, []),
  (43, 1, .iconst 1, 0, 0, 0, 0, 1, []),
  (44, 1, .iadd, 0, 0, 0, 0, 0, []),
  (45, 2, .istore 6, 0, 0, 0, 0, 0, []),
  (47, 2, .iload 6, 0, 0, 0, 0, 0, []),
  (49, 1, .aload_n 0, 0, 0, 0, 0, 0, []),
  (50, 3, .invokevirtual 195, mM_dots, 0, 10, 182, 0, [(0, 1)]),
  (53, 3, .if_icmp .ge 78, 131, 0, 0, 0, 0, []),
  (56, 1, .aload_n 0, 0, 0, 0, 0, 0, []),
  (57, 2, .iload 5, 0, 0, 0, 0, 0, []),
  (59, 3, .invokevirtual 208, mM_xOf, 1, 10, 186, 0, [(0, 1)]),
  (62, 1, .i2l, 0, 0, 0, 0, 0, []),
  (63, 1, .aload_n 0, 0, 0, 0, 0, 0, []),
  (64, 2, .iload 5, 0, 0, 0, 0, 0, []),
  (66, 3, .invokevirtual 211, mM_yOf, 1, 10, 187, 0, [(0, 1)]),
  (69, 1, .i2l, 0, 0, 0, 0, 0, []),
  (70, 1, .aload_n 0, 0, 0, 0, 0, 0, []),
  (71, 2, .iload 5, 0, 0, 0, 0, 0, []),
  (73, 3, .invokevirtual 204, mM_under, 1, 10, 185, 0, [(0, 2)]),
  (76, 1, .aload_n 0, 0, 0, 0, 0, 0, []),
  (77, 2, .iload 6, 0, 0, 0, 0, 0, []),
  (79, 3, .invokevirtual 208, mM_xOf, 1, 10, 186, 0, [(0, 1)]),
  (82, 1, .i2l, 0, 0, 0, 0, 0, []),
  (83, 1, .aload_n 0, 0, 0, 0, 0, 0, []),
  (84, 2, .iload 6, 0, 0, 0, 0, 0, []),
  (86, 3, .invokevirtual 211, mM_yOf, 1, 10, 187, 0, [(0, 1)]),
  (89, 1, .i2l, 0, 0, 0, 0, 0, []),
  (90, 1, .aload_n 0, 0, 0, 0, 0, 0, []),
  (91, 2, .iload 6, 0, 0, 0, 0, 0, []),
  (93, 3, .invokevirtual 204, mM_under, 1, 10, 185, 0, [(0, 2)]),
  (96, 3, .invokestatic 332, mM_apart, 6, 0, 219, 0, [(0, 1)]),
  (99, 2, .istore 7, 0, 0, 0, 0, 0, []),
  (101, 1, .iload_n 2, 0, 0, 0, 0, 0, []),
  (102, 1, .iconst (-1), 0, 0, 0, 0, (-1), []),
  (103, 3, .if_icmp .eq 12, 115, 0, 0, 0, 0, []),
  (106, 2, .iload 7, 0, 0, 0, 0, 0, []),
  (108, 1, .iload_n 2, 0, 0, 0, 0, 0, []),
  (109, 3, .if_icmp .lt 6, 115, 0, 0, 0, 0, []),
  (112, 3, .goto 13, 125, 0, 0, 0, 0, []),
  (115, 2, .iload 7, 0, 0, 0, 0, 0, []),
  (117, 1, .istore_n 2, 0, 0, 0, 0, 0, []),
  (118, 2, .iload 5, 0, 0, 0, 0, 0, []),
  (120, 1, .istore_n 3, 0, 0, 0, 0, 0, []),
  (121, 2, .iload 6, 0, 0, 0, 0, 0, []),
  (123, 2, .istore 4, 0, 0, 0, 0, 0, []),
  (125, 3, .iinc 6 1, 0, 0, 0, 0, 1, []),
  (128, 3, .goto (-81), 47, 0, 0, 0, 0, []),
  (131, 3, .iinc 5 1, 0, 0, 0, 0, 1, []),
  (134, 3, .goto (-102), 32, 0, 0, 0, 0, []),
  (137, 1, .iload_n 1, 0, 0, 0, 0, 0, []),
  (138, 3, .ifCond .ne 7, 145, 0, 0, 0, 0, []),
  (141, 1, .iload_n 2, 0, 0, 0, 0, 0, []),
  (142, 3, .goto 14, 156, 0, 0, 0, 0, []),
  (145, 1, .iload_n 1, 0, 0, 0, 0, 0, []),
  (146, 1, .iconst 1, 0, 0, 0, 0, 1, []),
  (147, 3, .if_icmp .ne 7, 154, 0, 0, 0, 0, []),
  (150, 1, .iload_n 3, 0, 0, 0, 0, 0, []),
  (151, 3, .goto 5, 156, 0, 0, 0, 0, []),
  (154, 2, .iload 4, 0, 0, 0, 0, 0, []),
  (156, 1, .ireturn, 0, 0, 0, 0, 0, [])]
theorem ckM_closest_0 : ((cdM_closest.drop 0).take 60).all (rowOK mM_closest) = true := by decide +kernel
theorem ckM_closest_60 : ((cdM_closest.drop 60).take 60).all (rowOK mM_closest) = true := by decide +kernel
theorem ckM_closest : cdM_closest.all (rowOK mM_closest) = true := by
  have h : (cdM_closest.drop 0).all (rowOK mM_closest) = true := (all_cut 60 ckM_closest_0 (by rw [List.drop_drop]; exact (all_cut 60 ckM_closest_60 (by rw [List.drop_drop]; exact (by rw [show cdM_closest.drop 120 = [] from rfl]; rfl)))))
  exact h
def cdM_loads : List Row := [
  (0, 1, .aload_n 0, 0, 0, 0, 0, 0, []),
  (1, 3, .invokevirtual 195, mM_dots, 0, 10, 182, 0, [(0, 1)]),
  (4, 3, .ifCond .eq 15, 19, 0, 0, 0, 0, []),
  (7, 1, .iload_n 1, 0, 0, 0, 0, 0, []),
  (8, 1, .i2l, 0, 0, 0, 0, 0, []),
  (9, 1, .lconst 0, 0, 0, 0, 0, 0, []),
  (10, 3, .ldc2_w 363, 3, 0, 0, 19, 0, []),
  (13, 3, .invokestatic 94, mM_isIn, 3, 0, 166, 0, [(0, 1)]),
  (16, 3, .ifCond .ne 5, 21, 0, 0, 0, 0, []),
  (19, 1, .iconst (-1), 0, 0, 0, 0, (-1), []),
  (20, 1, .ireturn, 0, 0, 0, 0, 0, []),
  (21, 1, .aload_n 0, 0, 0, 0, 0, 0, []),
  (22, 3, .invokevirtual 299, mM_laysLoads, 0, 10, 210, 0, [(0, 0)]),
  (25, 1, .iconst 0, 0, 0, 0, 0, 0, []),
  (26, 1, .istore_n 2, 0, 0, 0, 0, 0, []),
  (27, 1, .iconst 0, 0, 0, 0, 0, 0, []),
  (28, 1, .istore_n 3, 0, 0, 0, 0, 0, []),
  (29, 1, .iconst 0, 0, 0, 0, 0, 0, []),
  (30, 2, .istore 4, 0, 0, 0, 0, 0, []),
  (32, 1, .iconst 1, 0, 0, 0, 0, 1, []),
  (33, 2, .istore 5, 0, 0, 0, 0, 0, []),
  (35, 2, .iload 5, 0, 0, 0, 0, 0, []),
  (37, 1, .aload_n 0, 0, 0, 0, 0, 0, []),
  (38, 3, .invokevirtual 195, mM_dots, 0, 10, 182, 0, [(0, 1)]),
  (41, 3, .if_icmp .ge 79, 120, 0, 0, 0, 0, []),
  (44, 1, .aload_n 0, 0, 0, 0, 0, 0, []),
  (45, 3, .getfield 32, 10, 20, 2, 129, 0, []),
  (48, 2, .iload 5, 0, 0, 0, 0, 0, []),
  (50, 1, .iaload, 0, 0, 0, 0, 0, []),
  (51, 1, .aload_n 0, 0, 0, 0, 0, 0, []),
  (52, 3, .getfield 32, 10, 20, 2, 129, 0, []),
  (55, 1, .iload_n 2, 0, 0, 0, 0, 0, []),
  (56, 1, .iaload, 0, 0, 0, 0, 0, []),
  (57, 3, .if_icmp .le 8, 65, 0, 0, 0, 0, []),
  (60, 2, .iload 5, 0, 0, 0, 0, 0, []),
  (62, 3, .goto 4, 66, 0, 0, 0, 0, []),
  (65, 1, .iload_n 2, 0, 0, 0, 0, 0, []),
  (66, 1, .istore_n 2, 0, 0, 0, 0, 0, []),
  (67, 1, .aload_n 0, 0, 0, 0, 0, 0, []),
  (68, 3, .getfield 32, 10, 20, 2, 129, 0, []),
  (71, 2, .iload 5, 0, 0, 0, 0, 0, []),
  (73, 1, .iaload, 0, 0, 0, 0, 0, []),
  (74, 1, .aload_n 0, 0, 0, 0, 0, 0, []),
  (75, 3, .getfield 32, 10, 20, 2, 129, 0, []),
  (78, 1, .iload_n 3, 0, 0, 0, 0, 0, []),
  (79, 1, .iaload, 0, 0, 0, 0, 0, []),
  (80, 3, .if_icmp .ge 8, 88, 0, 0, 0, 0, []),
  (83, 2, .iload 5, 0, 0, 0, 0, 0, []),
  (85, 3, .goto 4, 89, 0, 0, 0, 0, []),
  (88, 1, .iload_n 3, 0, 0, 0, 0, 0, []),
  (89, 1, .istore_n 3, 0, 0, 0, 0, 0, []),
  (90, 1, .aload_n 0, 0, 0, 0, 0, 0, []),
  (91, 2, .iload 5, 0, 0, 0, 0, 0, []),
  (93, 3, .invokevirtual 344, mM_costOf, 1, 10, 222, 0, [(0, 1)]),
  (96, 1, .aload_n 0, 0, 0, 0, 0, 0, []),
  (97, 2, .iload 4, 0, 0, 0, 0, 0, []),
  (99, 3, .invokevirtual 344, mM_costOf, 1, 10, 222, 0, [(0, 1)]),
  (102, 3, .if_icmp .le 8, 110, 0, 0, 0, 0, []),
  (105, 2, .iload 5, 0, 0, 0, 0, 0, []),
  (107, 3, .goto 5, 112, 0, 0, 0, 0, []),
  (110, 2, .iload 4, 0, 0, 0, 0, 0, []),
  (112, 2, .istore 4, 0, 0, 0, 0, 0, []),
  (114, 3, .iinc 5 1, 0, 0, 0, 0, 1, []),
  (117, 3, .goto (-82), 35, 0, 0, 0, 0, []),
  (120, 1, .iload_n 1, 0, 0, 0, 0, 0, []),
  (121, 3, .ifCond .ne 12, 133, 0, 0, 0, 0, []),
  (124, 1, .aload_n 0, 0, 0, 0, 0, 0, []),
  (125, 3, .getfield 32, 10, 20, 2, 129, 0, []),
  (128, 1, .iload_n 2, 0, 0, 0, 0, 0, []),
  (129, 1, .iaload, 0, 0, 0, 0, 0, []),
  (130, 3, .goto 28, 158, 0, 0, 0, 0, []),
  (133, 1, .iload_n 1, 0, 0, 0, 0, 0, []),
  (134, 1, .iconst 1, 0, 0, 0, 0, 1, []),
  (135, 3, .if_icmp .ne 12, 147, 0, 0, 0, 0, []),
  (138, 1, .aload_n 0, 0, 0, 0, 0, 0, []),
  (139, 3, .getfield 32, 10, 20, 2, 129, 0, []),
  (142, 1, .iload_n 3, 0, 0, 0, 0, 0, []),
  (143, 1, .iaload, 0, 0, 0, 0, 0, []),
  (144, 3, .goto 14, 158, 0, 0, 0, 0, []),
  (147, 1, .iload_n 1, 0, 0, 0, 0, 0, []),
  (148, 1, .iconst 2, 0, 0, 0, 0, 2, []),
  (149, 3, .if_icmp .ne 7, 156, 0, 0, 0, 0, []),
  (152, 1, .iload_n 2, 0, 0, 0, 0, 0, []),
  (153, 3, .goto 5, 158, 0, 0, 0, 0, []),
  (156, 2, .iload 4, 0, 0, 0, 0, 0, []),
  (158, 1, .ireturn, 0, 0, 0, 0, 0, [])]
theorem ckM_loads_0 : ((cdM_loads.drop 0).take 60).all (rowOK mM_loads) = true := by decide +kernel
theorem ckM_loads_60 : ((cdM_loads.drop 60).take 60).all (rowOK mM_loads) = true := by decide +kernel
theorem ckM_loads : cdM_loads.all (rowOK mM_loads) = true := by
  have h : (cdM_loads.drop 0).all (rowOK mM_loads) = true := (all_cut 60 ckM_loads_0 (by rw [List.drop_drop]; exact (all_cut 60 ckM_loads_60 (by rw [List.drop_drop]; exact (by rw [show cdM_loads.drop 120 = [] from rfl]; rfl)))))
  exact h
def cdM_touches : List Row := [
  (0, 1, .iconst 0, 0, 0, 0, 0, 0, []),
  (1, 1, .istore_n 3, 0, 0, 0, 0, 0, []),
  (2, 1, .iconst 0, 0, 0, 0, 0, 0, []),
  (3, 2, .istore 4, 0, 0, 0, 0, 0, []),
  (5, 2, .iload 4, 0, 0, 0, 0, 0, []),
  (7, 1, .aload_n 0, 0, 0, 0, 0, 0, []),
  (8, 3, .invokevirtual 221, mM_cells, 0, 10, 190, 0, [(0, 1)]),
  (11, 3, .if_icmp .ge 120, 131, 0, 0, 0, 0, []),
  (14, 2, .iload 4, 0, 0, 0, 0, 0, []),
  (16, 1, .iconst 1, 0, 0, 0, 0, 1, []),
  (17, 1, .iadd, 0, 0, 0, 0, 0, []),
  (18, 2, .istore 5, 0, 0, 0, 0, 0, []),
  (20, 2, .iload 5, 0, 0, 0, 0, 0, []),
  (22, 1, .aload_n 0, 0, 0, 0, 0, 0, []),
  (23, 3, .invokevirtual 221, mM_cells, 0, 10, 190, 0, [(0, 1)]),
  (26, 3, .if_icmp .ge 99, 125, 0, 0, 0, 0, []),
  (29, 2, .iload 5, 0, 0, 0, 0, 0, []),
  (31, 2, .iload 4, 0, 0, 0, 0, 0, []),
  (33, 1, .aload_n 0, 0, 0, 0, 0, 0, []),
  (34, 3, .invokevirtual 188, mM_wide, 0, 10, 180, 0, [(0, 1)]),
  (37, 1, .iadd, 0, 0, 0, 0, 0, []),
  (38, 3, .if_icmp .gt 87, 125, 0, 0, 0, 0, []),
  (41, 1, .aload_n 0, 0, 0, 0, 0, 0, []),
  (42, 3, .getfield 29, 10, 19, 2, 128, 0, []),
  (45, 2, .iload 4, 0, 0, 0, 0, 0, []),
  (47, 1, .iaload, 0, 0, 0, 0, 0, []),
  (48, 1, .iload_n 1, 0, 0, 0, 0, 0, []),
  (49, 3, .if_icmp .ne 14, 63, 0, 0, 0, 0, []),
  (52, 1, .aload_n 0, 0, 0, 0, 0, 0, []),
  (53, 3, .getfield 29, 10, 19, 2, 128, 0, []),
  (56, 2, .iload 5, 0, 0, 0, 0, 0, []),
  (58, 1, .iaload, 0, 0, 0, 0, 0, []),
  (59, 1, .iload_n 2, 0, 0, 0, 0, 0, []),
  (60, 3, .if_icmp .eq 25, 85, 0, 0, 0, 0, []),
  (63, 1, .aload_n 0, 0, 0, 0, 0, 0, []),
  (64, 3, .getfield 29, 10, 19, 2, 128, 0, []),
  (67, 2, .iload 4, 0, 0, 0, 0, 0, []),
  (69, 1, .iaload, 0, 0, 0, 0, 0, []),
  (70, 1, .iload_n 2, 0, 0, 0, 0, 0, []),
  (71, 3, .if_icmp .ne 18, 89, 0, 0, 0, 0, []),
  (74, 1, .aload_n 0, 0, 0, 0, 0, 0, []),
  (75, 3, .getfield 29, 10, 19, 2, 128, 0, []),
  (78, 2, .iload 5, 0, 0, 0, 0, 0, []),
  (80, 1, .iaload, 0, 0, 0, 0, 0, []),
  (81, 1, .iload_n 1, 0, 0, 0, 0, 0, []),
  (82, 3, .if_icmp .ne 7, 89, 0, 0, 0, 0, []),
  (85, 1, .iconst 1, 0, 0, 0, 0, 1, []),
  (86, 3, .goto 4, 90, 0, 0, 0, 0, []),
  (89, 1, .iconst 0, 0, 0, 0, 0, 0, []),
  (90, 2, .istore 6, 0, 0, 0, 0, 0, []),
  (92, 1, .iload_n 3, 0, 0, 0, 0, 0, []),
  (93, 2, .iload 6, 0, 0, 0, 0, 0, []),
  (95, 3, .ifCond .eq 18, 113, 0, 0, 0, 0, []),
  (98, 1, .aload_n 0, 0, 0, 0, 0, 0, []),
  (99, 2, .iload 4, 0, 0, 0, 0, 0, []),
  (101, 2, .iload 5, 0, 0, 0, 0, 0, []),
  (103, 3, .invokevirtual 338, mM_areBeside, 2, 10, 220, 0, [(0, 1)]),
  (106, 3, .ifCond .eq 7, 113, 0, 0, 0, 0, []),
  (109, 1, .iconst 1, 0, 0, 0, 0, 1, []),
  (110, 3, .goto 4, 114, 0, 0, 0, 0, []),
  (113, 1, .iconst 0, 0, 0, 0, 0, 0, []),
  (114, 3, .invokestatic 284, mM_truth, 1, 0, 206, 0, [(0, 1)]),
  (117, 1, .iadd, 0, 0, 0, 0, 0, []),
  (118, 1, .istore_n 3, 0, 0, 0, 0, 0, []),
  (119, 3, .iinc 5 1, 0, 0, 0, 0, 1, []),
  (122, 3, .goto (-102), 20, 0, 0, 0, 0, []),
  (125, 3, .iinc 4 1, 0, 0, 0, 0, 1, []),
  (128, 3, .goto (-123), 5, 0, 0, 0, 0, []),
  (131, 1, .iload_n 3, 0, 0, 0, 0, 0, []),
  (132, 1, .ireturn, 0, 0, 0, 0, 0, [])]
theorem ckM_touches : cdM_touches.all (rowOK mM_touches) = true := by decide +kernel
def cdM_touch : List Row := [
  (0, 1, .aload_n 0, 0, 0, 0, 0, 0, []),
  (1, 1, .iload_n 1, 0, 0, 0, 0, 0, []),
  (2, 3, .invokevirtual 260, mM_isDot, 1, 10, 201, 0, [(0, 1)]),
  (5, 3, .ifCond .eq 16, 21, 0, 0, 0, 0, []),
  (8, 1, .aload_n 0, 0, 0, 0, 0, 0, []),
  (9, 1, .iload_n 2, 0, 0, 0, 0, 0, []),
  (10, 3, .invokevirtual 260, mM_isDot, 1, 10, 201, 0, [(0, 1)]),
  (13, 3, .ifCond .eq 8, 21, 0, 0, 0, 0, []),
  (16, 1, .iload_n 1, 0, 0, 0, 0, 0, []),
  (17, 1, .iload_n 2, 0, 0, 0, 0, 0, []),
  (18, 3, .if_icmp .ne 5, 23, 0, 0, 0, 0, []),
  (21, 1, .iconst (-1), 0, 0, 0, 0, (-1), []),
  (22, 1, .ireturn, 0, 0, 0, 0, 0, []),
  (23, 1, .aload_n 0, 0, 0, 0, 0, 0, []),
  (24, 3, .invokevirtual 242, mM_laysOwners, 0, 10, 196, 0, [(0, 0)]),
  (27, 1, .aload_n 0, 0, 0, 0, 0, 0, []),
  (28, 1, .iload_n 1, 0, 0, 0, 0, 0, []),
  (29, 1, .iload_n 2, 0, 0, 0, 0, 0, []),
  (30, 3, .invokevirtual 365, mM_touches, 2, 10, 227, 0, [(0, 1)]),
  (33, 1, .ireturn, 0, 0, 0, 0, 0, [])]
theorem ckM_touch : cdM_touch.all (rowOK mM_touch) = true := by decide +kernel
def cdM_way : List Row := [
  (0, 1, .aload_n 0, 0, 0, 0, 0, 0, []),
  (1, 1, .iload_n 1, 0, 0, 0, 0, 0, []),
  (2, 3, .invokevirtual 260, mM_isDot, 1, 10, 201, 0, [(0, 1)]),
  (5, 3, .ifCond .eq 11, 16, 0, 0, 0, 0, []),
  (8, 1, .aload_n 0, 0, 0, 0, 0, 0, []),
  (9, 1, .iload_n 2, 0, 0, 0, 0, 0, []),
  (10, 3, .invokevirtual 260, mM_isDot, 1, 10, 201, 0, [(0, 1)]),
  (13, 3, .ifCond .ne 5, 18, 0, 0, 0, 0, []),
  (16, 1, .iconst (-1), 0, 0, 0, 0, (-1), []),
  (17, 1, .ireturn, 0, 0, 0, 0, 0, []),
  (18, 1, .aload_n 0, 0, 0, 0, 0, 0, []),
  (19, 3, .invokevirtual 242, mM_laysOwners, 0, 10, 196, 0, [(0, 0)]),
  (22, 1, .iconst 0, 0, 0, 0, 0, 0, []),
  (23, 1, .istore_n 3, 0, 0, 0, 0, 0, []),
  (24, 1, .iload_n 3, 0, 0, 0, 0, 0, []),
  (25, 1, .aload_n 0, 0, 0, 0, 0, 0, []),
  (26, 3, .invokevirtual 195, mM_dots, 0, 10, 182, 0, [(0, 1)]),
  (29, 3, .if_icmp .ge 16, 45, 0, 0, 0, 0, []),
  (32, 1, .aload_n 0, 0, 0, 0, 0, 0, []),
  (33, 3, .getfield 63, 10, 32, 2, 139, 0, []),
  (36, 1, .iload_n 3, 0, 0, 0, 0, 0, []),
  (37, 1, .iconst (-1), 0, 0, 0, 0, (-1), []),
  (38, 1, .iastore, 0, 0, 0, 0, 0, []),
  (39, 3, .iinc 3 1, 0, 0, 0, 0, 1, []),
  (42, 3, .goto (-18), 24, 0, 0, 0, 0, []),
  (45, 1, .aload_n 0, 0, 0, 0, 0, 0, []),
  (46, 3, .getfield 63, 10, 32, 2, 139, 0, []),
  (49, 1, .iload_n 1, 0, 0, 0, 0, 0, []),
  (50, 1, .iconst 0, 0, 0, 0, 0, 0, []),
  (51, 1, .iastore, 0, 0, 0, 0, 0, []),
  (52, 1, .iconst 1, 0, 0, 0, 0, 1, []),
  (53, 1, .istore_n 3, 0, 0, 0, 0, 0, []),
  (54, 1, .aload_n 0, 0, 0, 0, 0, 0, []),
  (55, 3, .getfield 57, 10, 30, 2, 137, 0, []),
  (58, 1, .iconst 0, 0, 0, 0, 0, 0, []),
  (59, 1, .iload_n 1, 0, 0, 0, 0, 0, []),
  (60, 1, .iastore, 0, 0, 0, 0, 0, []),
  (61, 1, .iconst 0, 0, 0, 0, 0, 0, []),
  (62, 2, .istore 4, 0, 0, 0, 0, 0, []),
  (64, 2, .iload 4, 0, 0, 0, 0, 0, []),
  (66, 1, .iload_n 3, 0, 0, 0, 0, 0, []),
  (67, 3, .if_icmp .ge 89, 156, 0, 0, 0, 0, []),
  (70, 1, .iconst 0, 0, 0, 0, 0, 0, []),
  (71, 2, .istore 5, 0, 0, 0, 0, 0, []),
  (73, 2, .iload 5, 0, 0, 0, 0, 0, []),
  (75, 1, .aload_n 0, 0, 0, 0, 0, 0, []),
  (76, 3, .invokevirtual 195, mM_dots, 0, 10, 182, 0, [(0, 1)]),
  (79, 3, .if_icmp .ge 71, 150, 0, 0, 0, 0, []),
  (82, 1, .aload_n 0, 0, 0, 0, 0, 0, []),
  (83, 3, .getfield 63, 10, 32, 2, 139, 0, []),
  (86, 2, .iload 5, 0, 0, 0, 0, 0, []),
  (88, 1, .iaload, 0, 0, 0, 0, 0, []),
  (89, 1, .iconst (-1), 0, 0, 0, 0, (-1), []),
  (90, 3, .if_icmp .ne 54, 144, 0, 0, 0, 0, []),
  (93, 1, .aload_n 0, 0, 0, 0, 0, 0, []),
  (94, 1, .aload_n 0, 0, 0, 0, 0, 0, []),
  (95, 3, .getfield 57, 10, 30, 2, 137, 0, []),
  (98, 2, .iload 4, 0, 0, 0, 0, 0, []),
  (100, 1, .iaload, 0, 0, 0, 0, 0, []),
  (101, 2, .iload 5, 0, 0, 0, 0, 0, []),
  (103, 3, .invokevirtual 365, mM_touches, 2, 10, 227, 0, [(0, 1)]),
  (106, 3, .ifCond .ne 6, 112, 0, 0, 0, 0, []),
  (109, 3, .goto 35, 144, 0, 0, 0, 0, []),
  (112, 1, .aload_n 0, 0, 0, 0, 0, 0, []),
  (113, 3, .getfield 63, 10, 32, 2, 139, 0, []),
  (116, 2, .iload 5, 0, 0, 0, 0, 0, []),
  (118, 1, .aload_n 0, 0, 0, 0, 0, 0, []),
  (119, 3, .getfield 63, 10, 32, 2, 139, 0, []),
  (122, 1, .aload_n 0, 0, 0, 0, 0, 0, []),
  (123, 3, .getfield 57, 10, 30, 2, 137, 0, []),
  (126, 2, .iload 4, 0, 0, 0, 0, 0, []),
  (128, 1, .iaload, 0, 0, 0, 0, 0, []),
  (129, 1, .iaload, 0, 0, 0, 0, 0, []),
  (130, 1, .iconst 1, 0, 0, 0, 0, 1, []),
  (131, 1, .iadd, 0, 0, 0, 0, 0, []),
  (132, 1, .iastore, 0, 0, 0, 0, 0, []),
  (133, 1, .aload_n 0, 0, 0, 0, 0, 0, []),
  (134, 3, .getfield 57, 10, 30, 2, 137, 0, []),
  (137, 1, .iload_n 3, 0, 0, 0, 0, 0, []),
  (138, 2, .iload 5, 0, 0, 0, 0, 0, []),
  (140, 1, .iastore, 0, 0, 0, 0, 0, []),
  (141, 3, .iinc 3 1, 0, 0, 0, 0, 1, []),
  (144, 3, .iinc 5 1, 0, 0, 0, 0, 1, []),
  (147, 3, .goto (-74), 73, 0, 0, 0, 0, []),
  (150, 3, .iinc 4 1, 0, 0, 0, 0, 1, []),
  (153, 3, .goto (-89), 64, 0, 0, 0, 0, []),
  (156, 1, .aload_n 0, 0, 0, 0, 0, 0, []),
  (157, 3, .getfield 63, 10, 32, 2, 139, 0, []),
  (160, 1, .iload_n 2, 0, 0, 0, 0, 0, []),
  (161, 1, .iaload, 0, 0, 0, 0, 0, []),
  (162, 1, .ireturn, 0, 0, 0, 0, 0, [])]
theorem ckM_way_0 : ((cdM_way.drop 0).take 60).all (rowOK mM_way) = true := by decide +kernel
theorem ckM_way_60 : ((cdM_way.drop 60).take 60).all (rowOK mM_way) = true := by decide +kernel
theorem ckM_way : cdM_way.all (rowOK mM_way) = true := by
  have h : (cdM_way.drop 0).all (rowOK mM_way) = true := (all_cut 60 ckM_way_0 (by rw [List.drop_drop]; exact (all_cut 60 ckM_way_60 (by rw [List.drop_drop]; exact (by rw [show cdM_way.drop 120 = [] from rfl]; rfl)))))
  exact h
def cdM_ownersOf : List Row := [
  (0, 1, .iconst 0, 0, 0, 0, 0, 0, []),
  (1, 1, .istore_n 2, 0, 0, 0, 0, 0, []),
  (2, 1, .iconst 0, 0, 0, 0, 0, 0, []),
  (3, 1, .istore_n 3, 0, 0, 0, 0, 0, []),
  (4, 1, .iload_n 3, 0, 0, 0, 0, 0, []),
  (5, 1, .aload_n 0, 0, 0, 0, 0, 0, []),
  (6, 3, .invokevirtual 195, mM_dots, 0, 10, 182, 0, [(0, 1)]),
  (9, 3, .if_icmp .ge 71, 80, 0, 0, 0, 0, []),
  (12, 1, .iconst 0, 0, 0, 0, 0, 0, []),
  (13, 2, .istore 4, 0, 0, 0, 0, 0, []),
  (15, 1, .iconst 0, 0, 0, 0, 0, 0, []),
  (16, 2, .istore 5, 0, 0, 0, 0, 0, []),
  (18, 2, .iload 5, 0, 0, 0, 0, 0, []),
  (20, 1, .aload_n 0, 0, 0, 0, 0, 0, []),
  (21, 3, .invokevirtual 221, mM_cells, 0, 10, 190, 0, [(0, 1)]),
  (24, 3, .if_icmp .ge 42, 66, 0, 0, 0, 0, []),
  (27, 2, .iload 4, 0, 0, 0, 0, 0, []),
  (29, 3, .ifCond .ne 24, 53, 0, 0, 0, 0, []),
  (32, 1, .aload_n 0, 0, 0, 0, 0, 0, []),
  (33, 2, .iload 5, 0, 0, 0, 0, 0, []),
  (35, 3, .invokevirtual 233, mM_weight, 1, 10, 193, 0, [(0, 1)]),
  (38, 1, .iload_n 1, 0, 0, 0, 0, 0, []),
  (39, 3, .if_icmp .ne 18, 57, 0, 0, 0, 0, []),
  (42, 1, .aload_n 0, 0, 0, 0, 0, 0, []),
  (43, 3, .getfield 29, 10, 19, 2, 128, 0, []),
  (46, 2, .iload 5, 0, 0, 0, 0, 0, []),
  (48, 1, .iaload, 0, 0, 0, 0, 0, []),
  (49, 1, .iload_n 3, 0, 0, 0, 0, 0, []),
  (50, 3, .if_icmp .ne 7, 57, 0, 0, 0, 0, []),
  (53, 1, .iconst 1, 0, 0, 0, 0, 1, []),
  (54, 3, .goto 4, 58, 0, 0, 0, 0, []),
  (57, 1, .iconst 0, 0, 0, 0, 0, 0, []),
  (58, 2, .istore 4, 0, 0, 0, 0, 0, []),
  (60, 3, .iinc 5 1, 0, 0, 0, 0, 1, []),
  (63, 3, .goto (-45), 18, 0, 0, 0, 0, []),
  (66, 1, .iload_n 2, 0, 0, 0, 0, 0, []),
  (67, 2, .iload 4, 0, 0, 0, 0, 0, []),
  (69, 3, .invokestatic 284, mM_truth, 1, 0, 206, 0, [(0, 1)]),
  (72, 1, .iadd, 0, 0, 0, 0, 0, []),
  (73, 1, .istore_n 2, 0, 0, 0, 0, 0, []),
  (74, 3, .iinc 3 1, 0, 0, 0, 0, 1, []),
  (77, 3, .goto (-73), 4, 0, 0, 0, 0, []),
  (80, 1, .iload_n 2, 0, 0, 0, 0, 0, []),
  (81, 1, .ireturn, 0, 0, 0, 0, 0, [])]
theorem ckM_ownersOf : cdM_ownersOf.all (rowOK mM_ownersOf) = true := by decide +kernel
def cdM_shade : List Row := [
  (0, 1, .iload_n 1, 0, 0, 0, 0, 0, []),
  (1, 1, .i2l, 0, 0, 0, 0, 0, []),
  (2, 1, .lconst 0, 0, 0, 0, 0, 0, []),
  (3, 3, .ldc2_w 291, 9, 0, 0, 14, 0, []),
  (6, 3, .invokestatic 94, mM_isIn, 3, 0, 166, 0, [(0, 1)]),
  (9, 3, .ifCond .eq 15, 24, 0, 0, 0, 0, []),
  (12, 1, .iload_n 2, 0, 0, 0, 0, 0, []),
  (13, 1, .i2l, 0, 0, 0, 0, 0, []),
  (14, 1, .lconst 0, 0, 0, 0, 0, 0, []),
  (15, 3, .ldc2_w 363, 3, 0, 0, 19, 0, []),
  (18, 3, .invokestatic 94, mM_isIn, 3, 0, 166, 0, [(0, 1)]),
  (21, 3, .ifCond .ne 5, 26, 0, 0, 0, 0, []),
  (24, 1, .iconst (-1), 0, 0, 0, 0, (-1), []),
  (25, 1, .ireturn, 0, 0, 0, 0, 0, []),
  (26, 1, .aload_n 0, 0, 0, 0, 0, 0, []),
  (27, 3, .invokevirtual 242, mM_laysOwners, 0, 10, 196, 0, [(0, 0)]),
  (30, 1, .iload_n 2, 0, 0, 0, 0, 0, []),
  (31, 1, .iconst 2, 0, 0, 0, 0, 2, []),
  (32, 3, .if_icmp .ne 9, 41, 0, 0, 0, 0, []),
  (35, 1, .aload_n 0, 0, 0, 0, 0, 0, []),
  (36, 1, .iload_n 1, 0, 0, 0, 0, 0, []),
  (37, 3, .invokevirtual 368, mM_ownersOf, 1, 10, 228, 0, [(0, 1)]),
  (40, 1, .ireturn, 0, 0, 0, 0, 0, []),
  (41, 1, .iconst 0, 0, 0, 0, 0, 0, []),
  (42, 1, .istore_n 3, 0, 0, 0, 0, 0, []),
  (43, 1, .iconst 0, 0, 0, 0, 0, 0, []),
  (44, 2, .istore 4, 0, 0, 0, 0, 0, []),
  (46, 2, .iload 4, 0, 0, 0, 0, 0, []),
  (48, 1, .aload_n 0, 0, 0, 0, 0, 0, []),
  (49, 3, .invokevirtual 221, mM_cells, 0, 10, 190, 0, [(0, 1)]),
  (52, 3, .if_icmp .ge 61, 113, 0, 0, 0, 0, []),
  (55, 1, .aload_n 0, 0, 0, 0, 0, 0, []),
  (56, 2, .iload 4, 0, 0, 0, 0, 0, []),
  (58, 3, .invokevirtual 233, mM_weight, 1, 10, 193, 0, [(0, 1)]),
  (61, 1, .iload_n 1, 0, 0, 0, 0, 0, []),
  (62, 3, .if_icmp .eq 6, 68, 0, 0, 0, 0, []),
  (65, 3, .goto 42, 107, 0, 0, 0, 0, []),
  (68, 1, .iload_n 3, 0, 0, 0, 0, 0, []),
  (69, 1, .iload_n 2, 0, 0, 0, 0, 0, []),
  (70, 3, .ifCond .ne 7, 77, 0, 0, 0, 0, []),
  (73, 1, .iconst 1, 0, 0, 0, 0, 1, []),
  (74, 3, .goto 31, 105, 0, 0, 0, 0, []),
  (77, 1, .iload_n 2, 0, 0, 0, 0, 0, []),
  (78, 1, .iconst 1, 0, 0, 0, 0, 1, []),
  (79, 3, .if_icmp .ne 12, 91, 0, 0, 0, 0, []),
  (82, 1, .aload_n 0, 0, 0, 0, 0, 0, []),
  (83, 2, .iload 4, 0, 0, 0, 0, 0, []),
  (85, 3, .invokevirtual 353, mM_spotsAt, 1, 10, 225, 0, [(0, 1)]),
  (88, 3, .goto 17, 105, 0, 0, 0, 0, []),
  (91, 1, .aload_n 0, 0, 0, 0, 0, 0, []),
  (92, 2, .iload 4, 0, 0, 0, 0, 0, []),
  (94, 1, .aload_n 0, 0, 0, 0, 0, 0, []),
  (95, 3, .getfield 29, 10, 19, 2, 128, 0, []),
  (98, 2, .iload 4, 0, 0, 0, 0, 0, []),
  (100, 1, .iaload, 0, 0, 0, 0, 0, []),
  (101, 3, .invokevirtual 236, mM_costBy, 2, 10, 194, 0, [(0, 2)]),
  (104, 1, .l2i, 0, 0, 0, 0, 0, []),
  (105, 1, .iadd, 0, 0, 0, 0, 0, []),
  (106, 1, .istore_n 3, 0, 0, 0, 0, 0, []),
  (107, 3, .iinc 4 1, 0, 0, 0, 0, 1, []),
  (110, 3, .goto (-64), 46, 0, 0, 0, 0, []),
  (113, 1, .iload_n 3, 0, 0, 0, 0, 0, []),
  (114, 1, .ireturn, 0, 0, 0, 0, 0, [])]
theorem ckM_shade : cdM_shade.all (rowOK mM_shade) = true := by decide +kernel
def cdM_isWithin : List Row := [
  (0, 1, .iload_n 1, 0, 0, 0, 0, 0, []),
  (1, 1, .aload_n 0, 0, 0, 0, 0, 0, []),
  (2, 3, .invokevirtual 188, mM_wide, 0, 10, 180, 0, [(0, 1)]),
  (5, 1, .irem, 0, 0, 0, 0, 0, []),
  (6, 1, .i2l, 0, 0, 0, 0, 0, []),
  (7, 1, .iload_n 2, 0, 0, 0, 0, 0, []),
  (8, 1, .i2l, 0, 0, 0, 0, 0, []),
  (9, 2, .iload 4, 0, 0, 0, 0, 0, []),
  (11, 1, .i2l, 0, 0, 0, 0, 0, []),
  (12, 3, .invokestatic 94, mM_isIn, 3, 0, 166, 0, [(0, 1)]),
  (15, 3, .ifCond .eq 25, 40, 0, 0, 0, 0, []),
  (18, 1, .iload_n 1, 0, 0, 0, 0, 0, []),
  (19, 1, .aload_n 0, 0, 0, 0, 0, 0, []),
  (20, 3, .invokevirtual 188, mM_wide, 0, 10, 180, 0, [(0, 1)]),
  (23, 1, .idiv, 0, 0, 0, 0, 0, []),
  (24, 1, .i2l, 0, 0, 0, 0, 0, []),
  (25, 1, .iload_n 3, 0, 0, 0, 0, 0, []),
  (26, 1, .i2l, 0, 0, 0, 0, 0, []),
  (27, 2, .iload 5, 0, 0, 0, 0, 0, []),
  (29, 1, .i2l, 0, 0, 0, 0, 0, []),
  (30, 3, .invokestatic 94, mM_isIn, 3, 0, 166, 0, [(0, 1)]),
  (33, 3, .ifCond .eq 7, 40, 0, 0, 0, 0, []),
  (36, 1, .iconst 1, 0, 0, 0, 0, 1, []),
  (37, 3, .goto 4, 41, 0, 0, 0, 0, []),
  (40, 1, .iconst 0, 0, 0, 0, 0, 0, []),
  (41, 1, .ireturn, 0, 0, 1, 0, 0, [])]
theorem ckM_isWithin : cdM_isWithin.all (rowOK mM_isWithin) = true := by decide +kernel
def cdM_weightsIn : List Row := [
  (0, 1, .iconst 0, 0, 0, 0, 0, 0, []),
  (1, 2, .istore 5, 0, 0, 0, 0, 0, []),
  (3, 1, .iconst 0, 0, 0, 0, 0, 0, []),
  (4, 2, .istore 6, 0, 0, 0, 0, 0, []),
  (6, 2, .iload 6, 0, 0, 0, 0, 0, []),
  (8, 1, .aload_n 0, 0, 0, 0, 0, 0, []),
  (9, 3, .invokevirtual 221, mM_cells, 0, 10, 190, 0, [(0, 1)]),
  (12, 3, .if_icmp .ge 38, 50, 0, 0, 0, 0, []),
  (15, 2, .iload 5, 0, 0, 0, 0, 0, []),
  (17, 1, .aload_n 0, 0, 0, 0, 0, 0, []),
  (18, 2, .iload 6, 0, 0, 0, 0, 0, []),
  (20, 1, .iload_n 1, 0, 0, 0, 0, 0, []),
  (21, 1, .iload_n 2, 0, 0, 0, 0, 0, []),
  (22, 1, .iload_n 3, 0, 0, 0, 0, 0, []),
  (23, 2, .iload 4, 0, 0, 0, 0, 0, []),
  (25, 3, .invokevirtual 371, mM_isWithin, 5, 10, 229, 0, [(0, 1)]),
  (28, 3, .ifCond .eq 12, 40, 0, 0, 0, 0, []),
  (31, 1, .aload_n 0, 0, 0, 0, 0, 0, []),
  (32, 2, .iload 6, 0, 0, 0, 0, 0, []),
  (34, 3, .invokevirtual 233, mM_weight, 1, 10, 193, 0, [(0, 1)]),
  (37, 3, .goto 4, 41, 0, 0, 0, 0, []),
  (40, 1, .iconst 0, 0, 0, 0, 0, 0, []),
  (41, 1, .iadd, 0, 0, 0, 0, 0, []),
  (42, 2, .istore 5, 0, 0, 0, 0, 0, []),
  (44, 3, .iinc 6 1, 0, 0, 0, 0, 1, []),
  (47, 3, .goto (-41), 6, 0, 0, 0, 0, []),
  (50, 2, .iload 5, 0, 0, 0, 0, 0, []),
  (52, 1, .ireturn, 0, 0, 0, 0, 0, [])]
theorem ckM_weightsIn : cdM_weightsIn.all (rowOK mM_weightsIn) = true := by decide +kernel
def cdM_laysSpots : List Row := [
  (0, 1, .iconst 0, 0, 0, 0, 0, 0, []),
  (1, 1, .istore_n 1, 0, 0, 0, 0, 0, []),
  (2, 1, .iload_n 1, 0, 0, 0, 0, 0, []),
  (3, 1, .aload_n 0, 0, 0, 0, 0, 0, []),
  (4, 3, .invokevirtual 195, mM_dots, 0, 10, 182, 0, [(0, 1)]),
  (7, 3, .if_icmp .ge 20, 27, 0, 0, 0, 0, []),
  (10, 1, .aload_n 0, 0, 0, 0, 0, 0, []),
  (11, 3, .getfield 66, 10, 33, 2, 140, 0, []),
  (14, 1, .iload_n 1, 0, 0, 0, 0, 0, []),
  (15, 1, .aload_n 0, 0, 0, 0, 0, 0, []),
  (16, 1, .iload_n 1, 0, 0, 0, 0, 0, []),
  (17, 3, .invokevirtual 347, mM_spotOf, 1, 10, 223, 0, [(0, 1)]),
  (20, 1, .iastore, 0, 0, 0, 0, 0, []),
  (21, 3, .iinc 1 1, 0, 0, 0, 0, 1, []),
  (24, 3, .goto (-22), 2, 0, 0, 0, 0, []),
  (27, 1, .return_, 0, 0, 0, 0, 0, [])]
theorem ckM_laysSpots : cdM_laysSpots.all (rowOK mM_laysSpots) = true := by decide +kernel
def cdM_dotsIn : List Row := [
  (0, 1, .iconst 0, 0, 0, 0, 0, 0, []),
  (1, 2, .istore 5, 0, 0, 0, 0, 0, []),
  (3, 1, .iconst 0, 0, 0, 0, 0, 0, []),
  (4, 2, .istore 6, 0, 0, 0, 0, 0, []),
  (6, 2, .iload 6, 0, 0, 0, 0, 0, []),
  (8, 1, .aload_n 0, 0, 0, 0, 0, 0, []),
  (9, 3, .invokevirtual 195, mM_dots, 0, 10, 182, 0, [(0, 1)]),
  (12, 3, .if_icmp .ge 33, 45, 0, 0, 0, 0, []),
  (15, 2, .iload 5, 0, 0, 0, 0, 0, []),
  (17, 1, .aload_n 0, 0, 0, 0, 0, 0, []),
  (18, 1, .aload_n 0, 0, 0, 0, 0, 0, []),
  (19, 3, .getfield 66, 10, 33, 2, 140, 0, []),
  (22, 2, .iload 6, 0, 0, 0, 0, 0, []),
  (24, 1, .iaload, 0, 0, 0, 0, 0, []),
  (25, 1, .iload_n 1, 0, 0, 0, 0, 0, []),
  (26, 1, .iload_n 2, 0, 0, 0, 0, 0, []),
  (27, 1, .iload_n 3, 0, 0, 0, 0, 0, []),
  (28, 2, .iload 4, 0, 0, 0, 0, 0, []),
  (30, 3, .invokevirtual 371, mM_isWithin, 5, 10, 229, 0, [(0, 1)]),
  (33, 3, .invokestatic 284, mM_truth, 1, 0, 206, 0, [(0, 1)]),
  (36, 1, .iadd, 0, 0, 0, 0, 0, []),
  (37, 2, .istore 5, 0, 0, 0, 0, 0, []),
  (39, 3, .iinc 6 1, 0, 0, 0, 0, 1, []),
  (42, 3, .goto (-36), 6, 0, 0, 0, 0, []),
  (45, 2, .iload 5, 0, 0, 0, 0, 0, []),
  (47, 1, .ireturn, 0, 0, 0, 0, 0, [])]
theorem ckM_dotsIn : cdM_dotsIn.all (rowOK mM_dotsIn) = true := by decide +kernel
def cdM_tone : List Row := [
  (0, 1, .aload_n 0, 0, 0, 0, 0, 0, []),
  (1, 1, .iload_n 1, 0, 0, 0, 0, 0, []),
  (2, 1, .iload_n 2, 0, 0, 0, 0, 0, []),
  (3, 3, .invokevirtual 249, mM_isCell, 2, 10, 198, 0, [(0, 1)]),
  (6, 3, .ifCond .eq 35, 41, 0, 0, 0, 0, []),
  (9, 1, .aload_n 0, 0, 0, 0, 0, 0, []),
  (10, 1, .iload_n 3, 0, 0, 0, 0, 0, []),
  (11, 2, .iload 4, 0, 0, 0, 0, 0, []),
  (13, 3, .invokevirtual 249, mM_isCell, 2, 10, 198, 0, [(0, 1)]),
  (16, 3, .ifCond .eq 25, 41, 0, 0, 0, 0, []),
  (19, 1, .iload_n 1, 0, 0, 0, 0, 0, []),
  (20, 1, .iload_n 3, 0, 0, 0, 0, 0, []),
  (21, 3, .if_icmp .gt 20, 41, 0, 0, 0, 0, []),
  (24, 1, .iload_n 2, 0, 0, 0, 0, 0, []),
  (25, 2, .iload 4, 0, 0, 0, 0, 0, []),
  (27, 3, .if_icmp .gt 14, 41, 0, 0, 0, 0, []),
  (30, 2, .iload 5, 0, 0, 0, 0, 0, []),
  (32, 1, .i2l, 0, 0, 0, 0, 0, []),
  (33, 1, .lconst 0, 0, 0, 0, 0, 0, []),
  (34, 1, .lconst 1, 1, 0, 0, 0, 0, []),
  (35, 3, .invokestatic 94, mM_isIn, 3, 0, 166, 0, [(0, 1)]),
  (38, 3, .ifCond .ne 5, 43, 0, 0, 0, 0, []),
  (41, 1, .iconst (-1), 0, 0, 0, 0, (-1), []),
  (42, 1, .ireturn, 0, 0, 0, 0, 0, []),
  (43, 1, .aload_n 0, 0, 0, 0, 0, 0, []),
  (44, 3, .invokevirtual 375, mM_laysSpots, 0, 10, 230, 0, [(0, 0)]),
  (47, 2, .iload 5, 0, 0, 0, 0, 0, []),
  (49, 3, .ifCond .ne 15, 64, 0, 0, 0, 0, []),
  (52, 1, .aload_n 0, 0, 0, 0, 0, 0, []),
  (53, 1, .iload_n 1, 0, 0, 0, 0, 0, []),
  (54, 1, .iload_n 2, 0, 0, 0, 0, 0, []),
  (55, 1, .iload_n 3, 0, 0, 0, 0, 0, []),
  (56, 2, .iload 4, 0, 0, 0, 0, 0, []),
  (58, 3, .invokevirtual 378, mM_weightsIn, 4, 10, 231, 0, [(0, 1)]),
  (61, 3, .goto 12, 73, 0, 0, 0, 0, []),
  (64, 1, .aload_n 0, 0, 0, 0, 0, 0, []),
  (65, 1, .iload_n 1, 0, 0, 0, 0, 0, []),
  (66, 1, .iload_n 2, 0, 0, 0, 0, 0, []),
  (67, 1, .iload_n 3, 0, 0, 0, 0, 0, []),
  (68, 2, .iload 4, 0, 0, 0, 0, 0, []),
  (70, 3, .invokevirtual 382, mM_dotsIn, 4, 10, 232, 0, [(0, 1)]),
  (73, 1, .ireturn, 0, 0, 0, 0, 0, [])]
theorem ckM_tone : cdM_tone.all (rowOK mM_tone) = true := by decide +kernel
def cdM_uneven : List Row := [
  (0, 1, .iload_n 1, 0, 0, 0, 0, 0, []),
  (1, 1, .i2l, 0, 0, 0, 0, 0, []),
  (2, 1, .lconst 1, 1, 0, 0, 0, 0, []),
  (3, 3, .ldc2_w 385, 20, 0, 0, 20, 0, []),
  (6, 3, .invokestatic 94, mM_isIn, 3, 0, 166, 0, [(0, 1)]),
  (9, 3, .ifCond .eq 29, 38, 0, 0, 0, 0, []),
  (12, 1, .iload_n 1, 0, 0, 0, 0, 0, []),
  (13, 1, .aload_n 0, 0, 0, 0, 0, 0, []),
  (14, 3, .invokevirtual 188, mM_wide, 0, 10, 180, 0, [(0, 1)]),
  (17, 3, .if_icmp .gt 21, 38, 0, 0, 0, 0, []),
  (20, 1, .iload_n 1, 0, 0, 0, 0, 0, []),
  (21, 1, .aload_n 0, 0, 0, 0, 0, 0, []),
  (22, 3, .invokevirtual 192, mM_high, 0, 10, 181, 0, [(0, 1)]),
  (25, 3, .if_icmp .gt 13, 38, 0, 0, 0, 0, []),
  (28, 1, .iload_n 2, 0, 0, 0, 0, 0, []),
  (29, 1, .i2l, 0, 0, 0, 0, 0, []),
  (30, 1, .lconst 0, 0, 0, 0, 0, 0, []),
  (31, 1, .lconst 1, 1, 0, 0, 0, 0, []),
  (32, 3, .invokestatic 94, mM_isIn, 3, 0, 166, 0, [(0, 1)]),
  (35, 3, .ifCond .ne 7, 42, 0, 0, 0, 0, []),
  (38, 3, .ldc_w 387, 0, 0, 0, 4, (-2147483648), []),
  (41, 1, .ireturn, 0, 0, 0, 0, 0, []),
  (42, 1, .aload_n 0, 0, 0, 0, 0, 0, []),
  (43, 3, .invokevirtual 375, mM_laysSpots, 0, 10, 230, 0, [(0, 0)]),
  (46, 1, .aload_n 0, 0, 0, 0, 0, 0, []),
  (47, 3, .invokevirtual 388, mM_allWeights, 0, 10, 233, 0, [(0, 1)]),
  (50, 1, .istore_n 3, 0, 0, 0, 0, 0, []),
  (51, 1, .iconst (-1), 0, 0, 0, 0, (-1), []),
  (52, 2, .istore 4, 0, 0, 0, 0, 0, []),
  (54, 1, .iconst 0, 0, 0, 0, 0, 0, []),
  (55, 2, .istore 5, 0, 0, 0, 0, 0, []),
  (57, 1, .iconst 0, 0, 0, 0, 0, 0, []),
  (58, 2, .istore 6, 0, 0, 0, 0, 0, []),
  (60, 2, .iload 6, 0, 0, 0, 0, 0, []),
  (62, 1, .iload_n 1, 0, 0, 0, 0, 0, []),
  (63, 1, .iadd, 0, 0, 0, 0, 0, []),
  (64, 1, .aload_n 0, 0, 0, 0, 0, 0, []),
  (65, 3, .invokevirtual 192, mM_high, 0, 10, 181, 0, [(0, 1)]),
  (68, 3, .if_icmp .gt 115, 183, 0, 0, 0, 0, []),
  (71, 1, .iconst 0, 0, 0, 0, 0, 0, []),
  (72, 2, .istore 7, 0, 0, 0, 0, 0, []),
  (74, 2, .iload 7, 0, 0, 0, 0, 0, []),
  (76, 1, .iload_n 1, 0, 0, 0, 0, 0, []),
  (77, 1, .iadd, 0, 0, 0, 0, 0, []),
  (78, 1, .aload_n 0, 0, 0, 0, 0, 0, []),
  (79, 3, .invokevirtual 188, mM_wide, 0, 10, 180, 0, [(0, 1)]),
  (82, 3, .if_icmp .gt 95, 177, 0, 0, 0, 0, []),
  (85, 1, .aload_n 0, 0, 0, 0, 0, 0, []),
  (86, 2, .iload 7, 0, 0, 0, 0, 0, []),
  (88, 2, .iload 6, 0, 0, 0, 0, 0, []),
  (90, 2, .iload 7, 0, 0, 0, 0, 0, []),
  (92, 1, .iload_n 1, 0, 0, 0, 0, 0, []),
  (93, 1, .iadd, 0, 0, 0, 0, 0, []),
  (94, 1, .iconst 1, 0, 0, 0, 0, 1, []),
  (95, 1, .isub, 0, 0, 0, 0, 0, []),
  (96, 2, .iload 6, 0, 0, 0, 0, 0, []),
  (98, 1, .iload_n 1, 0, 0, 0, 0, 0, []),
  (99, 1, .iadd, 0, 0, 0, 0, 0, []),
  (100, 1, .iconst 1, 0, 0, 0, 0, 1, []),
  (101, 1, .isub, 0, 0, 0, 0, 0, []),
  (102, 3, .invokevirtual 382, mM_dotsIn, 4, 10, 232, 0, [(0, 1)]),
  (105, 1, .iload_n 3, 0, 0, 0, 0, 0, []),
  (106, 1, .imul, 0, 0, 0, 0, 0, []),
  (107, 1, .aload_n 0, 0, 0, 0, 0, 0, []),
  (108, 2, .iload 7, 0, 0, 0, 0, 0, []),
  (110, 2, .iload 6, 0, 0, 0, 0, 0, []),
  (112, 2, .iload 7, 0, 0, 0, 0, 0, []),
  (114, 1, .iload_n 1, 0, 0, 0, 0, 0, []),
  (115, 1, .iadd, 0, 0, 0, 0, 0, []),
  (116, 1, .iconst 1, 0, 0, 0, 0, 1, []),
  (117, 1, .isub, 0, 0, 0, 0, 0, []),
  (118, 2, .iload 6, 0, 0, 0, 0, 0, []),
  (120, 1, .iload_n 1, 0, 0, 0, 0, 0, []),
  (121, 1, .iadd, 0, 0, 0, 0, 0, []),
  (122, 1, .iconst 1, 0, 0, 0, 0, 1, []),
  (123, 1, .isub, 0, 0, 0, 0, 0, []),
  (124, 3, .invokevirtual 378, mM_weightsIn, 4, 10, 231, 0, [(0, 1)]),
  (127, 1, .aload_n 0, 0, 0, 0, 0, 0, []),
  (128, 3, .invokevirtual 195, mM_dots, 0, 10, 182, 0, [(0, 1)]),
  (131, 1, .imul, 0, 0, 0, 0, 0, []),
  (132, 1, .isub, 0, 0, 0, 0, 0, []),
  (133, 2, .istore 8, 0, 0, 0, 0, 0, []),
  (135, 2, .iload 4, 0, 0, 0, 0, 0, []),
  (137, 1, .iconst (-1), 0, 0, 0, 0, (-1), []),
  (138, 3, .if_icmp .eq 19, 157, 0, 0, 0, 0, []),
  (141, 2, .iload 8, 0, 0, 0, 0, 0, []),
  (143, 3, .invokestatic 198, mM_size, 1, 0, 183, 0, [(0, 1)]),
  (146, 2, .iload 5, 0, 0, 0, 0, 0, []),
  (148, 3, .invokestatic 198, mM_size, 1, 0, 183, 0, [(0, 1)]),
  (151, 3, .if_icmp .gt 6, 157, 0, 0, 0, 0, []),
  (154, 3, .goto 17, 171, 0, 0, 0, 0, []),
  (157, 1, .aload_n 0, 0, 0, 0, 0, 0, []),
  (158, 2, .iload 7, 0, 0, 0, 0, 0, []),
  (160, 2, .iload 6, 0, 0, 0, 0, 0, []),
  (162, 3, .invokevirtual 293, mM_numberOf, 2, 10, 208, 0, [(0, 1)]),
  (165, 2, .istore 4, 0, 0, 0, 0, 0, []),
  (167, 2, .iload 8, 0, 0, 0, 0, 0, []),
  (169, 2, .istore 5, 0, 0, 0, 0, 0, []),
  (171, 3, .iinc 7 1, 0, 0, 0, 0, 1, []),
  (174, 3, .goto (-100), 74, 0, 0, 0, 0, []),
  (177, 3, .iinc 6 1, 0, 0, 0, 0, 1, []),
  (180, 3, .goto (-120), 60, 0, 0, 0, 0, []),
  (183, 1, .iload_n 2, 0, 0, 0, 0, 0, []),
  (184, 3, .ifCond .ne 8, 192, 0, 0, 0, 0, []),
  (187, 2, .iload 4, 0, 0, 0, 0, 0, []),
  (189, 3, .goto 5, 194, 0, 0, 0, 0, []),
  (192, 2, .iload 5, 0, 0, 0, 0, 0, []),
  (194, 1, .ireturn, 0, 0, 0, 0, 0, [])]
theorem ckM_uneven_0 : ((cdM_uneven.drop 0).take 60).all (rowOK mM_uneven) = true := by decide +kernel
theorem ckM_uneven_60 : ((cdM_uneven.drop 60).take 60).all (rowOK mM_uneven) = true := by decide +kernel
theorem ckM_uneven : cdM_uneven.all (rowOK mM_uneven) = true := by
  have h : (cdM_uneven.drop 0).all (rowOK mM_uneven) = true := (all_cut 60 ckM_uneven_0 (by rw [List.drop_drop]; exact (all_cut 60 ckM_uneven_60 (by rw [List.drop_drop]; exact (by rw [show cdM_uneven.drop 120 = [] from rfl]; rfl)))))
  exact h
def cdM_lossOf : List Row := [
  (0, 1, .aload_n 0, 0, 0, 0, 0, 0, []),
  (1, 1, .iload_n 1, 0, 0, 0, 0, 0, []),
  (2, 3, .invokevirtual 239, mM_costBut, 1, 10, 195, 0, [(0, 2)]),
  (5, 1, .aload_n 0, 0, 0, 0, 0, 0, []),
  (6, 1, .iconst (-1), 0, 0, 0, 0, (-1), []),
  (7, 3, .invokevirtual 239, mM_costBut, 1, 10, 195, 0, [(0, 2)]),
  (10, 1, .lsub, 0, 0, 0, 0, 0, []),
  (11, 1, .l2i, 0, 0, 0, 0, 0, []),
  (12, 1, .ireturn, 0, 0, 0, 0, 0, [])]
theorem ckM_lossOf : cdM_lossOf.all (rowOK mM_lossOf) = true := by decide +kernel
def cdM_loss : List Row := [
  (0, 1, .aload_n 0, 0, 0, 0, 0, 0, []),
  (1, 1, .iload_n 1, 0, 0, 0, 0, 0, []),
  (2, 3, .invokevirtual 260, mM_isDot, 1, 10, 201, 0, [(0, 1)]),
  (5, 3, .ifCond .eq 19, 24, 0, 0, 0, 0, []),
  (8, 1, .aload_n 0, 0, 0, 0, 0, 0, []),
  (9, 3, .invokevirtual 195, mM_dots, 0, 10, 182, 0, [(0, 1)]),
  (12, 1, .iconst 1, 0, 0, 0, 0, 1, []),
  (13, 3, .if_icmp .le 11, 24, 0, 0, 0, 0, []),
  (16, 1, .aload_n 0, 0, 0, 0, 0, 0, []),
  (17, 1, .iload_n 1, 0, 0, 0, 0, 0, []),
  (18, 3, .invokevirtual 391, mM_lossOf, 1, 10, 234, 0, [(0, 1)]),
  (21, 3, .goto 4, 25, 0, 0, 0, 0, []),
  (24, 1, .iconst (-1), 0, 0, 0, 0, (-1), []),
  (25, 1, .ireturn, 0, 0, 0, 0, 0, [])]
theorem ckM_loss : cdM_loss.all (rowOK mM_loss) = true := by decide +kernel
def cdM_idle : List Row := [
  (0, 1, .aload_n 0, 0, 0, 0, 0, 0, []),
  (1, 3, .invokevirtual 195, mM_dots, 0, 10, 182, 0, [(0, 1)]),
  (4, 1, .iconst 2, 0, 0, 0, 0, 2, []),
  (5, 3, .if_icmp .ge 5, 10, 0, 0, 0, 0, []),
  (8, 1, .iconst (-1), 0, 0, 0, 0, (-1), []),
  (9, 1, .ireturn, 0, 0, 0, 0, 0, []),
  (10, 1, .iconst 0, 0, 0, 0, 0, 0, []),
  (11, 1, .istore_n 1, 0, 0, 0, 0, 0, []),
  (12, 1, .aload_n 0, 0, 0, 0, 0, 0, []),
  (13, 1, .iconst 0, 0, 0, 0, 0, 0, []),
  (14, 3, .invokevirtual 391, mM_lossOf, 1, 10, 234, 0, [(0, 1)]),
  (17, 1, .istore_n 2, 0, 0, 0, 0, 0, []),
  (18, 1, .iconst 1, 0, 0, 0, 0, 1, []),
  (19, 1, .istore_n 3, 0, 0, 0, 0, 0, []),
  (20, 1, .iload_n 3, 0, 0, 0, 0, 0, []),
  (21, 1, .aload_n 0, 0, 0, 0, 0, 0, []),
  (22, 3, .invokevirtual 195, mM_dots, 0, 10, 182, 0, [(0, 1)]),
  (25, 3, .if_icmp .ge 30, 55, 0, 0, 0, 0, []),
  (28, 1, .aload_n 0, 0, 0, 0, 0, 0, []),
  (29, 1, .iload_n 3, 0, 0, 0, 0, 0, []),
  (30, 3, .invokevirtual 391, mM_lossOf, 1, 10, 234, 0, [(0, 1)]),
  (33, 2, .istore 4, 0, 0, 0, 0, 0, []),
  (35, 2, .iload 4, 0, 0, 0, 0, 0, []),
  (37, 1, .iload_n 2, 0, 0, 0, 0, 0, []),
  (38, 3, .if_icmp .lt 6, 44, 0, 0, 0, 0, []),
  (41, 3, .goto 8, 49, 0, 0, 0, 0, []),
  (44, 1, .iload_n 3, 0, 0, 0, 0, 0, []),
  (45, 1, .istore_n 1, 0, 0, 0, 0, 0, []),
  (46, 2, .iload 4, 0, 0, 0, 0, 0, []),
  (48, 1, .istore_n 2, 0, 0, 0, 0, 0, []),
  (49, 3, .iinc 3 1, 0, 0, 0, 0, 1, []),
  (52, 3, .goto (-32), 20, 0, 0, 0, 0, []),
  (55, 1, .iload_n 1, 0, 0, 0, 0, 0, []),
  (56, 1, .ireturn, 0, 0, 0, 0, 0, [])]
theorem ckM_idle : cdM_idle.all (rowOK mM_idle) = true := by decide +kernel
def cdM_costWith : List Row := [
  (0, 1, .lconst 0, 0, 0, 0, 0, 0, []),
  (1, 1, .lstore_n 2, 0, 0, 0, 0, 0, []),
  (2, 1, .iconst 0, 0, 0, 0, 0, 0, []),
  (3, 2, .istore 4, 0, 0, 0, 0, 0, []),
  (5, 2, .iload 4, 0, 0, 0, 0, 0, []),
  (7, 1, .aload_n 0, 0, 0, 0, 0, 0, []),
  (8, 3, .invokevirtual 221, mM_cells, 0, 10, 190, 0, [(0, 1)]),
  (11, 3, .if_icmp .ge 100, 111, 0, 0, 0, 0, []),
  (14, 2, .iload 4, 0, 0, 0, 0, 0, []),
  (16, 1, .aload_n 0, 0, 0, 0, 0, 0, []),
  (17, 3, .invokevirtual 188, mM_wide, 0, 10, 180, 0, [(0, 1)]),
  (20, 1, .irem, 0, 0, 0, 0, 0, []),
  (21, 1, .iload_n 1, 0, 0, 0, 0, 0, []),
  (22, 1, .aload_n 0, 0, 0, 0, 0, 0, []),
  (23, 3, .invokevirtual 188, mM_wide, 0, 10, 180, 0, [(0, 1)]),
  (26, 1, .irem, 0, 0, 0, 0, 0, []),
  (27, 1, .isub, 0, 0, 0, 0, 0, []),
  (28, 2, .istore 5, 0, 0, 0, 0, 0, []),
  (30, 2, .iload 4, 0, 0, 0, 0, 0, []),
  (32, 1, .aload_n 0, 0, 0, 0, 0, 0, []),
  (33, 3, .invokevirtual 188, mM_wide, 0, 10, 180, 0, [(0, 1)]),
  (36, 1, .idiv, 0, 0, 0, 0, 0, []),
  (37, 1, .iload_n 1, 0, 0, 0, 0, 0, []),
  (38, 1, .aload_n 0, 0, 0, 0, 0, 0, []),
  (39, 3, .invokevirtual 188, mM_wide, 0, 10, 180, 0, [(0, 1)]),
  (42, 1, .idiv, 0, 0, 0, 0, 0, []),
  (43, 1, .isub, 0, 0, 0, 0, 0, []),
  (44, 2, .istore 6, 0, 0, 0, 0, 0, []),
  (46, 3, .ldc2_w 231, 1000, 0, 0, 9, 0, []),
  (49, 1, .aload_n 0, 0, 0, 0, 0, 0, []),
  (50, 2, .iload 4, 0, 0, 0, 0, 0, []),
  (52, 3, .invokevirtual 233, mM_weight, 1, 10, 193, 0, [(0, 1)]),
  (55, 1, .i2l, 0, 0, 0, 0, 0, []),
  (56, 1, .lmul, 0, 0, 0, 0, 0, []),
  (57, 2, .iload 5, 0, 0, 0, 0, 0, []),
  (59, 2, .iload 5, 0, 0, 0, 0, 0, []),
  (61, 1, .imul, 0, 0, 0, 0, 0, []),
  (62, 2, .iload 6, 0, 0, 0, 0, 0, []),
  (64, 2, .iload 6, 0, 0, 0, 0, 0, []),
  (66, 1, .imul, 0, 0, 0, 0, 0, []),
  (67, 1, .iadd, 0, 0, 0, 0, 0, []),
  (68, 1, .i2l, 0, 0, 0, 0, 0, []),
  (69, 1, .lmul, 0, 0, 0, 0, 0, []),
  (70, 2, .lstore 7, 0, 0, 0, 0, 0, []),
  (72, 1, .aload_n 0, 0, 0, 0, 0, 0, []),
  (73, 2, .iload 4, 0, 0, 0, 0, 0, []),
  (75, 1, .aload_n 0, 0, 0, 0, 0, 0, []),
  (76, 3, .getfield 29, 10, 19, 2, 128, 0, []),
  (79, 2, .iload 4, 0, 0, 0, 0, 0, []),
  (81, 1, .iaload, 0, 0, 0, 0, 0, []),
  (82, 3, .invokevirtual 236, mM_costBy, 2, 10, 194, 0, [(0, 2)]),
  (85, 2, .lstore 9, 0, 0, 0, 0, 0, []),
  (87, 1, .lload_n 2, 0, 0, 0, 0, 0, []),
  (88, 2, .lload 7, 0, 0, 0, 0, 0, []),
  (90, 2, .lload 9, 0, 0, 0, 0, 0, []),
  (92, 1, .lcmp, 0, 0, 0, 0, 0, []),
  (93, 3, .ifCond .ge 8, 101, 0, 0, 0, 0, []),
  (96, 2, .lload 7, 0, 0, 0, 0, 0, []),
  (98, 3, .goto 5, 103, 0, 0, 0, 0, []),
  (101, 2, .lload 9, 0, 0, 0, 0, 0, []),
  (103, 1, .ladd, 0, 0, 0, 0, 0, []),
  (104, 1, .lstore_n 2, 0, 0, 0, 0, 0, []),
  (105, 3, .iinc 4 1, 0, 0, 0, 0, 1, []),
  (108, 3, .goto (-103), 5, 0, 0, 0, 0, []),
  (111, 1, .lload_n 2, 0, 0, 0, 0, 0, []),
  (112, 1, .lreturn, 0, 0, 0, 0, 0, [])]
theorem ckM_costWith : cdM_costWith.all (rowOK mM_costWith) = true := by decide +kernel
def cdM_more : List Row := [
  (0, 1, .aload_n 0, 0, 0, 0, 0, 0, []),
  (1, 3, .invokevirtual 195, mM_dots, 0, 10, 182, 0, [(0, 1)]),
  (4, 3, .ifCond .eq 13, 17, 0, 0, 0, 0, []),
  (7, 1, .iload_n 1, 0, 0, 0, 0, 0, []),
  (8, 1, .i2l, 0, 0, 0, 0, 0, []),
  (9, 1, .lconst 0, 0, 0, 0, 0, 0, []),
  (10, 1, .lconst 1, 1, 0, 0, 0, 0, []),
  (11, 3, .invokestatic 94, mM_isIn, 3, 0, 166, 0, [(0, 1)]),
  (14, 3, .ifCond .ne 5, 19, 0, 0, 0, 0, []),
  (17, 1, .iconst (-1), 0, 0, 0, 0, (-1), []),
  (18, 1, .ireturn, 0, 0, 0, 0, 0, []),
  (19, 1, .aload_n 0, 0, 0, 0, 0, 0, []),
  (20, 3, .invokevirtual 242, mM_laysOwners, 0, 10, 196, 0, [(0, 0)]),
  (23, 1, .iconst (-1), 0, 0, 0, 0, (-1), []),
  (24, 1, .istore_n 2, 0, 0, 0, 0, 0, []),
  (25, 1, .lconst 0, 0, 0, 0, 0, 0, []),
  (26, 1, .lstore_n 3, 0, 0, 0, 0, 0, []),
  (27, 1, .iconst 0, 0, 0, 0, 0, 0, []),
  (28, 2, .istore 5, 0, 0, 0, 0, 0, []),
  (30, 2, .iload 5, 0, 0, 0, 0, 0, []),
  (32, 1, .aload_n 0, 0, 0, 0, 0, 0, []),
  (33, 3, .invokevirtual 221, mM_cells, 0, 10, 190, 0, [(0, 1)]),
  (36, 3, .if_icmp .ge 38, 74, 0, 0, 0, 0, []),
  (39, 1, .aload_n 0, 0, 0, 0, 0, 0, []),
  (40, 2, .iload 5, 0, 0, 0, 0, 0, []),
  (42, 3, .invokevirtual 394, mM_costWith, 1, 10, 235, 0, [(0, 2)]),
  (45, 2, .lstore 6, 0, 0, 0, 0, 0, []),
  (47, 1, .iload_n 2, 0, 0, 0, 0, 0, []),
  (48, 1, .iconst (-1), 0, 0, 0, 0, (-1), []),
  (49, 3, .if_icmp .eq 13, 62, 0, 0, 0, 0, []),
  (52, 2, .lload 6, 0, 0, 0, 0, 0, []),
  (54, 1, .lload_n 3, 0, 0, 0, 0, 0, []),
  (55, 1, .lcmp, 0, 0, 0, 0, 0, []),
  (56, 3, .ifCond .lt 6, 62, 0, 0, 0, 0, []),
  (59, 3, .goto 9, 68, 0, 0, 0, 0, []),
  (62, 2, .iload 5, 0, 0, 0, 0, 0, []),
  (64, 1, .istore_n 2, 0, 0, 0, 0, 0, []),
  (65, 2, .lload 6, 0, 0, 0, 0, 0, []),
  (67, 1, .lstore_n 3, 0, 0, 0, 0, 0, []),
  (68, 3, .iinc 5 1, 0, 0, 0, 0, 1, []),
  (71, 3, .goto (-41), 30, 0, 0, 0, 0, []),
  (74, 1, .iload_n 1, 0, 0, 0, 0, 0, []),
  (75, 3, .ifCond .ne 7, 82, 0, 0, 0, 0, []),
  (78, 1, .iload_n 2, 0, 0, 0, 0, 0, []),
  (79, 3, .goto 5, 84, 0, 0, 0, 0, []),
  (82, 1, .lload_n 3, 0, 0, 0, 0, 0, []),
  (83, 1, .l2i, 0, 0, 0, 0, 0, []),
  (84, 1, .ireturn, 0, 0, 0, 0, 0, [])]
theorem ckM_more : cdM_more.all (rowOK mM_more) = true := by decide +kernel
def cdM_costMoved : List Row := [
  (0, 1, .lconst 0, 0, 0, 0, 0, 0, []),
  (1, 1, .lstore_n 3, 0, 0, 0, 0, 0, []),
  (2, 1, .iconst 0, 0, 0, 0, 0, 0, []),
  (3, 2, .istore 5, 0, 0, 0, 0, 0, []),
  (5, 2, .iload 5, 0, 0, 0, 0, 0, []),
  (7, 1, .aload_n 0, 0, 0, 0, 0, 0, []),
  (8, 3, .invokevirtual 221, mM_cells, 0, 10, 190, 0, [(0, 1)]),
  (11, 3, .if_icmp .ge 116, 127, 0, 0, 0, 0, []),
  (14, 2, .iload 5, 0, 0, 0, 0, 0, []),
  (16, 1, .aload_n 0, 0, 0, 0, 0, 0, []),
  (17, 3, .invokevirtual 188, mM_wide, 0, 10, 180, 0, [(0, 1)]),
  (20, 1, .irem, 0, 0, 0, 0, 0, []),
  (21, 1, .iload_n 2, 0, 0, 0, 0, 0, []),
  (22, 1, .aload_n 0, 0, 0, 0, 0, 0, []),
  (23, 3, .invokevirtual 188, mM_wide, 0, 10, 180, 0, [(0, 1)]),
  (26, 1, .irem, 0, 0, 0, 0, 0, []),
  (27, 1, .isub, 0, 0, 0, 0, 0, []),
  (28, 2, .istore 6, 0, 0, 0, 0, 0, []),
  (30, 2, .iload 5, 0, 0, 0, 0, 0, []),
  (32, 1, .aload_n 0, 0, 0, 0, 0, 0, []),
  (33, 3, .invokevirtual 188, mM_wide, 0, 10, 180, 0, [(0, 1)]),
  (36, 1, .idiv, 0, 0, 0, 0, 0, []),
  (37, 1, .iload_n 2, 0, 0, 0, 0, 0, []),
  (38, 1, .aload_n 0, 0, 0, 0, 0, 0, []),
  (39, 3, .invokevirtual 188, mM_wide, 0, 10, 180, 0, [(0, 1)]),
  (42, 1, .idiv, 0, 0, 0, 0, 0, []),
  (43, 1, .isub, 0, 0, 0, 0, 0, []),
  (44, 2, .istore 7, 0, 0, 0, 0, 0, []),
  (46, 3, .ldc2_w 231, 1000, 0, 0, 9, 0, []),
  (49, 1, .aload_n 0, 0, 0, 0, 0, 0, []),
  (50, 2, .iload 5, 0, 0, 0, 0, 0, []),
  (52, 3, .invokevirtual 233, mM_weight, 1, 10, 193, 0, [(0, 1)]),
  (55, 1, .i2l, 0, 0, 0, 0, 0, []),
  (56, 1, .lmul, 0, 0, 0, 0, 0, []),
  (57, 2, .iload 6, 0, 0, 0, 0, 0, []),
  (59, 2, .iload 6, 0, 0, 0, 0, 0, []),
  (61, 1, .imul, 0, 0, 0, 0, 0, []),
  (62, 2, .iload 7, 0, 0, 0, 0, 0, []),
  (64, 2, .iload 7, 0, 0, 0, 0, 0, []),
  (66, 1, .imul, 0, 0, 0, 0, 0, []),
  (67, 1, .iadd, 0, 0, 0, 0, 0, []),
  (68, 1, .i2l, 0, 0, 0, 0, 0, []),
  (69, 1, .lmul, 0, 0, 0, 0, 0, []),
  (70, 2, .lstore 8, 0, 0, 0, 0, 0, []),
  (72, 1, .aload_n 0, 0, 0, 0, 0, 0, []),
  (73, 3, .getfield 29, 10, 19, 2, 128, 0, []),
  (76, 2, .iload 5, 0, 0, 0, 0, 0, []),
  (78, 1, .iaload, 0, 0, 0, 0, 0, []),
  (79, 1, .iconst (-1), 0, 0, 0, 0, (-1), []),
  (80, 3, .if_icmp .ne 8, 88, 0, 0, 0, 0, []),
  (83, 2, .lload 8, 0, 0, 0, 0, 0, []),
  (85, 3, .goto 16, 101, 0, 0, 0, 0, []),
  (88, 1, .aload_n 0, 0, 0, 0, 0, 0, []),
  (89, 2, .iload 5, 0, 0, 0, 0, 0, []),
  (91, 1, .aload_n 0, 0, 0, 0, 0, 0, []),
  (92, 3, .getfield 29, 10, 19, 2, 128, 0, []),
  (95, 2, .iload 5, 0, 0, 0, 0, 0, []),
  (97, 1, .iaload, 0, 0, 0, 0, 0, []),
  (98, 3, .invokevirtual 236, mM_costBy, 2, 10, 194, 0, [(0, 2)]),
  (101, 2, .lstore 10, 0, 0, 0, 0, 0, []),
  (103, 1, .lload_n 3, 0, 0, 0, 0, 0, []),
  (104, 2, .lload 8, 0, 0, 0, 0, 0, []),
  (106, 2, .lload 10, 0, 0, 0, 0, 0, []),
  (108, 1, .lcmp, 0, 0, 0, 0, 0, []),
  (109, 3, .ifCond .ge 8, 117, 0, 0, 0, 0, []),
  (112, 2, .lload 8, 0, 0, 0, 0, 0, []),
  (114, 3, .goto 5, 119, 0, 0, 0, 0, []),
  (117, 2, .lload 10, 0, 0, 0, 0, 0, []),
  (119, 1, .ladd, 0, 0, 0, 0, 0, []),
  (120, 1, .lstore_n 3, 0, 0, 0, 0, 0, []),
  (121, 3, .iinc 5 1, 0, 0, 0, 0, 1, []),
  (124, 3, .goto (-119), 5, 0, 0, 0, 0, []),
  (127, 1, .lload_n 3, 0, 0, 0, 0, 0, []),
  (128, 1, .lreturn, 0, 0, 0, 0, 0, [])]
theorem ckM_costMoved_0 : ((cdM_costMoved.drop 0).take 60).all (rowOK mM_costMoved) = true := by decide +kernel
theorem ckM_costMoved_60 : ((cdM_costMoved.drop 60).take 60).all (rowOK mM_costMoved) = true := by decide +kernel
theorem ckM_costMoved : cdM_costMoved.all (rowOK mM_costMoved) = true := by
  have h : (cdM_costMoved.drop 0).all (rowOK mM_costMoved) = true := (all_cut 60 ckM_costMoved_0 (by rw [List.drop_drop]; exact (all_cut 60 ckM_costMoved_60 (by rw [List.drop_drop]; exact (by rw [show cdM_costMoved.drop 120 = [] from rfl]; rfl)))))
  exact h
def cdM_best : List Row := [
  (0, 1, .aload_n 0, 0, 0, 0, 0, 0, []),
  (1, 1, .iload_n 1, 0, 0, 0, 0, 0, []),
  (2, 3, .invokevirtual 260, mM_isDot, 1, 10, 201, 0, [(0, 1)]),
  (5, 3, .ifCond .eq 13, 18, 0, 0, 0, 0, []),
  (8, 1, .iload_n 2, 0, 0, 0, 0, 0, []),
  (9, 1, .i2l, 0, 0, 0, 0, 0, []),
  (10, 1, .lconst 0, 0, 0, 0, 0, 0, []),
  (11, 1, .lconst 1, 1, 0, 0, 0, 0, []),
  (12, 3, .invokestatic 94, mM_isIn, 3, 0, 166, 0, [(0, 1)]),
  (15, 3, .ifCond .ne 5, 20, 0, 0, 0, 0, []),
  (18, 1, .iconst (-1), 0, 0, 0, 0, (-1), []),
  (19, 1, .ireturn, 0, 0, 0, 0, 0, []),
  (20, 1, .iconst 0, 0, 0, 0, 0, 0, []),
  (21, 1, .istore_n 3, 0, 0, 0, 0, 0, []),
  (22, 1, .iload_n 3, 0, 0, 0, 0, 0, []),
  (23, 1, .aload_n 0, 0, 0, 0, 0, 0, []),
  (24, 3, .invokevirtual 221, mM_cells, 0, 10, 190, 0, [(0, 1)]),
  (27, 3, .if_icmp .ge 21, 48, 0, 0, 0, 0, []),
  (30, 1, .aload_n 0, 0, 0, 0, 0, 0, []),
  (31, 3, .getfield 29, 10, 19, 2, 128, 0, []),
  (34, 1, .iload_n 3, 0, 0, 0, 0, 0, []),
  (35, 1, .aload_n 0, 0, 0, 0, 0, 0, []),
  (36, 1, .iload_n 3, 0, 0, 0, 0, 0, []),
  (37, 1, .iload_n 1, 0, 0, 0, 0, 0, []),
  (38, 3, .invokevirtual 224, mM_ownerBut, 2, 10, 191, 0, [(0, 1)]),
  (41, 1, .iastore, 0, 0, 0, 0, 0, []),
  (42, 3, .iinc 3 1, 0, 0, 0, 0, 1, []),
  (45, 3, .goto (-23), 22, 0, 0, 0, 0, []),
  (48, 1, .iconst (-1), 0, 0, 0, 0, (-1), []),
  (49, 1, .istore_n 3, 0, 0, 0, 0, 0, []),
  (50, 1, .lconst 0, 0, 0, 0, 0, 0, []),
  (51, 2, .lstore 4, 0, 0, 0, 0, 0, []),
  (53, 1, .iconst 0, 0, 0, 0, 0, 0, []),
  (54, 2, .istore 6, 0, 0, 0, 0, 0, []),
  (56, 2, .iload 6, 0, 0, 0, 0, 0, []),
  (58, 1, .aload_n 0, 0, 0, 0, 0, 0, []),
  (59, 3, .invokevirtual 221, mM_cells, 0, 10, 190, 0, [(0, 1)]),
  (62, 3, .if_icmp .ge 41, 103, 0, 0, 0, 0, []),
  (65, 1, .aload_n 0, 0, 0, 0, 0, 0, []),
  (66, 1, .iload_n 1, 0, 0, 0, 0, 0, []),
  (67, 2, .iload 6, 0, 0, 0, 0, 0, []),
  (69, 3, .invokevirtual 397, mM_costMoved, 2, 10, 236, 0, [(0, 2)]),
  (72, 2, .lstore 7, 0, 0, 0, 0, 0, []),
  (74, 1, .iload_n 3, 0, 0, 0, 0, 0, []),
  (75, 1, .iconst (-1), 0, 0, 0, 0, (-1), []),
  (76, 3, .if_icmp .eq 14, 90, 0, 0, 0, 0, []),
  (79, 2, .lload 7, 0, 0, 0, 0, 0, []),
  (81, 2, .lload 4, 0, 0, 0, 0, 0, []),
  (83, 1, .lcmp, 0, 0, 0, 0, 0, []),
  (84, 3, .ifCond .lt 6, 90, 0, 0, 0, 0, []),
  (87, 3, .goto 10, 97, 0, 0, 0, 0, []),
  (90, 2, .iload 6, 0, 0, 0, 0, 0, []),
  (92, 1, .istore_n 3, 0, 0, 0, 0, 0, []),
  (93, 2, .lload 7, 0, 0, 0, 0, 0, []),
  (95, 2, .lstore 4, 0, 0, 0, 0, 0, []),
  (97, 3, .iinc 6 1, 0, 0, 0, 0, 1, []),
  (100, 3, .goto (-44), 56, 0, 0, 0, 0, []),
  (103, 1, .iload_n 2, 0, 0, 0, 0, 0, []),
  (104, 3, .ifCond .ne 7, 111, 0, 0, 0, 0, []),
  (107, 1, .iload_n 3, 0, 0, 0, 0, 0, []),
  (108, 3, .goto 6, 114, 0, 0, 0, 0, []),
  (111, 2, .lload 4, 0, 0, 0, 0, 0, []),
  (113, 1, .l2i, 0, 0, 0, 0, 0, []),
  (114, 1, .ireturn, 0, 0, 0, 0, 0, [])]
theorem ckM_best : cdM_best.all (rowOK mM_best) = true := by decide +kernel
def cdM_ties : List Row := [
  (0, 1, .aload_n 0, 0, 0, 0, 0, 0, []),
  (1, 1, .iload_n 1, 0, 0, 0, 0, 0, []),
  (2, 1, .iload_n 2, 0, 0, 0, 0, 0, []),
  (3, 3, .invokevirtual 249, mM_isCell, 2, 10, 198, 0, [(0, 1)]),
  (6, 3, .ifCond .eq 10, 16, 0, 0, 0, 0, []),
  (9, 1, .aload_n 0, 0, 0, 0, 0, 0, []),
  (10, 3, .invokevirtual 195, mM_dots, 0, 10, 182, 0, [(0, 1)]),
  (13, 3, .ifCond .ne 5, 18, 0, 0, 0, 0, []),
  (16, 1, .iconst (-1), 0, 0, 0, 0, (-1), []),
  (17, 1, .ireturn, 0, 0, 0, 0, 0, []),
  (18, 1, .aload_n 0, 0, 0, 0, 0, 0, []),
  (19, 1, .iload_n 1, 0, 0, 0, 0, 0, []),
  (20, 1, .iload_n 2, 0, 0, 0, 0, 0, []),
  (21, 3, .invokevirtual 293, mM_numberOf, 2, 10, 208, 0, [(0, 1)]),
  (24, 1, .istore_n 3, 0, 0, 0, 0, 0, []),
  (25, 1, .aload_n 0, 0, 0, 0, 0, 0, []),
  (26, 1, .iload_n 3, 0, 0, 0, 0, 0, []),
  (27, 1, .iconst (-1), 0, 0, 0, 0, (-1), []),
  (28, 3, .invokevirtual 224, mM_ownerBut, 2, 10, 191, 0, [(0, 1)]),
  (31, 2, .istore 4, 0, 0, 0, 0, 0, []),
  (33, 1, .iconst 0, 0, 0, 0, 0, 0, []),
  (34, 2, .istore 5, 0, 0, 0, 0, 0, []),
  (36, 1, .iconst 0, 0, 0, 0, 0, 0, []),
  (37, 2, .istore 6, 0, 0, 0, 0, 0, []),
  (39, 2, .iload 6, 0, 0, 0, 0, 0, []),
  (41, 1, .aload_n 0, 0, 0, 0, 0, 0, []),
  (42, 3, .invokevirtual 195, mM_dots, 0, 10, 182, 0, [(0, 1)]),
  (45, 3, .if_icmp .ge 34, 79, 0, 0, 0, 0, []),
  (48, 2, .iload 5, 0, 0, 0, 0, 0, []),
  (50, 1, .aload_n 0, 0, 0, 0, 0, 0, []),
  (51, 1, .iload_n 3, 0, 0, 0, 0, 0, []),
  (52, 2, .iload 4, 0, 0, 0, 0, 0, []),
  (54, 2, .iload 6, 0, 0, 0, 0, 0, []),
  (56, 3, .invokevirtual 227, mM_isNearer, 3, 10, 192, 0, [(0, 1)]),
  (59, 3, .ifCond .ne 7, 66, 0, 0, 0, 0, []),
  (62, 1, .iconst 1, 0, 0, 0, 0, 1, []),
  (63, 3, .goto 4, 67, 0, 0, 0, 0, []),
  (66, 1, .iconst 0, 0, 0, 0, 0, 0, []),
  (67, 3, .invokestatic 284, mM_truth, 1, 0, 206, 0, [(0, 1)]),
  (70, 1, .iadd, 0, 0, 0, 0, 0, []),
  (71, 2, .istore 5, 0, 0, 0, 0, 0, []),
  (73, 3, .iinc 6 1, 0, 0, 0, 0, 1, []),
  (76, 3, .goto (-37), 39, 0, 0, 0, 0, []),
  (79, 2, .iload 5, 0, 0, 0, 0, 0, []),
  (81, 1, .ireturn, 0, 0, 0, 0, 0, [])]
theorem ckM_ties : cdM_ties.all (rowOK mM_ties) = true := by decide +kernel
def cdM_farthestOf : List Row := [
  (0, 1, .iconst (-1), 0, 0, 0, 0, (-1), []),
  (1, 1, .istore_n 2, 0, 0, 0, 0, 0, []),
  (2, 1, .iconst 0, 0, 0, 0, 0, 0, []),
  (3, 1, .istore_n 3, 0, 0, 0, 0, 0, []),
  (4, 1, .iload_n 3, 0, 0, 0, 0, 0, []),
  (5, 1, .aload_n 0, 0, 0, 0, 0, 0, []),
  (6, 3, .invokevirtual 221, mM_cells, 0, 10, 190, 0, [(0, 1)]),
  (9, 3, .if_icmp .ge 42, 51, 0, 0, 0, 0, []),
  (12, 1, .aload_n 0, 0, 0, 0, 0, 0, []),
  (13, 3, .getfield 29, 10, 19, 2, 128, 0, []),
  (16, 1, .iload_n 3, 0, 0, 0, 0, 0, []),
  (17, 1, .iaload, 0, 0, 0, 0, 0, []),
  (18, 1, .iload_n 1, 0, 0, 0, 0, 0, []),
  (19, 3, .if_icmp .ne 26, 45, 0, 0, 0, 0, []),
  (22, 1, .iload_n 2, 0, 0, 0, 0, 0, []),
  (23, 1, .iconst (-1), 0, 0, 0, 0, (-1), []),
  (24, 3, .if_icmp .eq 19, 43, 0, 0, 0, 0, []),
  (27, 1, .aload_n 0, 0, 0, 0, 0, 0, []),
  (28, 1, .iload_n 3, 0, 0, 0, 0, 0, []),
  (29, 1, .iload_n 1, 0, 0, 0, 0, 0, []),
  (30, 3, .invokevirtual 214, mM_upper, 2, 10, 188, 0, [(0, 2)]),
  (33, 1, .aload_n 0, 0, 0, 0, 0, 0, []),
  (34, 1, .iload_n 2, 0, 0, 0, 0, 0, []),
  (35, 1, .iload_n 1, 0, 0, 0, 0, 0, []),
  (36, 3, .invokevirtual 214, mM_upper, 2, 10, 188, 0, [(0, 2)]),
  (39, 1, .lcmp, 0, 0, 0, 0, 0, []),
  (40, 3, .ifCond .le 5, 45, 0, 0, 0, 0, []),
  (43, 1, .iload_n 3, 0, 0, 0, 0, 0, []),
  (44, 1, .istore_n 2, 0, 0, 0, 0, 0, []),
  (45, 3, .iinc 3 1, 0, 0, 0, 0, 1, []),
  (48, 3, .goto (-44), 4, 0, 0, 0, 0, []),
  (51, 1, .iload_n 2, 0, 0, 0, 0, 0, []),
  (52, 1, .ireturn, 0, 0, 0, 0, 0, [])]
theorem ckM_farthestOf : cdM_farthestOf.all (rowOK mM_farthestOf) = true := by decide +kernel
def cdM_outside : List Row := [
  (0, 1, .iconst 0, 0, 0, 0, 0, 0, []),
  (1, 1, .istore_n 2, 0, 0, 0, 0, 0, []),
  (2, 1, .iconst 0, 0, 0, 0, 0, 0, []),
  (3, 1, .istore_n 3, 0, 0, 0, 0, 0, []),
  (4, 1, .iload_n 3, 0, 0, 0, 0, 0, []),
  (5, 1, .aload_n 0, 0, 0, 0, 0, 0, []),
  (6, 3, .invokevirtual 221, mM_cells, 0, 10, 190, 0, [(0, 1)]),
  (9, 3, .if_icmp .ge 90, 99, 0, 0, 0, 0, []),
  (12, 1, .iload_n 3, 0, 0, 0, 0, 0, []),
  (13, 1, .aload_n 0, 0, 0, 0, 0, 0, []),
  (14, 3, .invokevirtual 188, mM_wide, 0, 10, 180, 0, [(0, 1)]),
  (17, 1, .irem, 0, 0, 0, 0, 0, []),
  (18, 3, .ifCond .eq 42, 60, 0, 0, 0, 0, []),
  (21, 1, .iload_n 3, 0, 0, 0, 0, 0, []),
  (22, 1, .aload_n 0, 0, 0, 0, 0, 0, []),
  (23, 3, .invokevirtual 188, mM_wide, 0, 10, 180, 0, [(0, 1)]),
  (26, 1, .idiv, 0, 0, 0, 0, 0, []),
  (27, 3, .ifCond .eq 33, 60, 0, 0, 0, 0, []),
  (30, 1, .iload_n 3, 0, 0, 0, 0, 0, []),
  (31, 1, .aload_n 0, 0, 0, 0, 0, 0, []),
  (32, 3, .invokevirtual 188, mM_wide, 0, 10, 180, 0, [(0, 1)]),
  (35, 1, .irem, 0, 0, 0, 0, 0, []),
  (36, 1, .aload_n 0, 0, 0, 0, 0, 0, []),
  (37, 3, .invokevirtual 188, mM_wide, 0, 10, 180, 0, [(0, 1)]),
  (40, 1, .iconst 1, 0, 0, 0, 0, 1, []),
  (41, 1, .isub, 0, 0, 0, 0, 0, []),
  (42, 3, .if_icmp .eq 18, 60, 0, 0, 0, 0, []),
  (45, 1, .iload_n 3, 0, 0, 0, 0, 0, []),
  (46, 1, .aload_n 0, 0, 0, 0, 0, 0, []),
  (47, 3, .invokevirtual 188, mM_wide, 0, 10, 180, 0, [(0, 1)]),
  (50, 1, .idiv, 0, 0, 0, 0, 0, []),
  (51, 1, .aload_n 0, 0, 0, 0, 0, 0, []),
  (52, 3, .invokevirtual 192, mM_high, 0, 10, 181, 0, [(0, 1)]),
  (55, 1, .iconst 1, 0, 0, 0, 0, 1, []),
  (56, 1, .isub, 0, 0, 0, 0, 0, []),
  (57, 3, .if_icmp .ne 7, 64, 0, 0, 0, 0, []),
  (60, 1, .iconst 1, 0, 0, 0, 0, 1, []),
  (61, 3, .goto 4, 65, 0, 0, 0, 0, []),
  (64, 1, .iconst 0, 0, 0, 0, 0, 0, []),
  (65, 2, .istore 4, 0, 0, 0, 0, 0, []),
  (67, 1, .iload_n 2, 0, 0, 0, 0, 0, []),
  (68, 1, .aload_n 0, 0, 0, 0, 0, 0, []),
  (69, 3, .getfield 29, 10, 19, 2, 128, 0, []),
  (72, 1, .iload_n 3, 0, 0, 0, 0, 0, []),
  (73, 1, .iaload, 0, 0, 0, 0, 0, []),
  (74, 1, .iload_n 1, 0, 0, 0, 0, 0, []),
  (75, 3, .if_icmp .ne 12, 87, 0, 0, 0, 0, []),
  (78, 2, .iload 4, 0, 0, 0, 0, 0, []),
  (80, 3, .ifCond .eq 7, 87, 0, 0, 0, 0, []),
  (83, 1, .iconst 1, 0, 0, 0, 0, 1, []),
  (84, 3, .goto 4, 88, 0, 0, 0, 0, []),
  (87, 1, .iconst 0, 0, 0, 0, 0, 0, []),
  (88, 3, .invokestatic 284, mM_truth, 1, 0, 206, 0, [(0, 1)]),
  (91, 1, .iadd, 0, 0, 0, 0, 0, []),
  (92, 1, .istore_n 2, 0, 0, 0, 0, 0, []),
  (93, 3, .iinc 3 1, 0, 0, 0, 0, 1, []),
  (96, 3, .goto (-92), 4, 0, 0, 0, 0, []),
  (99, 1, .iload_n 2, 0, 0, 0, 0, 0, []),
  (100, 1, .ireturn, 0, 0, 0, 0, 0, [])]
theorem ckM_outside : cdM_outside.all (rowOK mM_outside) = true := by decide +kernel
def cdM_edge : List Row := [
  (0, 1, .aload_n 0, 0, 0, 0, 0, 0, []),
  (1, 1, .iload_n 1, 0, 0, 0, 0, 0, []),
  (2, 3, .invokevirtual 260, mM_isDot, 1, 10, 201, 0, [(0, 1)]),
  (5, 3, .ifCond .eq 15, 20, 0, 0, 0, 0, []),
  (8, 1, .iload_n 2, 0, 0, 0, 0, 0, []),
  (9, 1, .i2l, 0, 0, 0, 0, 0, []),
  (10, 1, .lconst 0, 0, 0, 0, 0, 0, []),
  (11, 3, .ldc2_w 361, 2, 0, 0, 18, 0, []),
  (14, 3, .invokestatic 94, mM_isIn, 3, 0, 166, 0, [(0, 1)]),
  (17, 3, .ifCond .ne 5, 22, 0, 0, 0, 0, []),
  (20, 1, .iconst (-1), 0, 0, 0, 0, (-1), []),
  (21, 1, .ireturn, 0, 0, 0, 0, 0, []),
  (22, 1, .aload_n 0, 0, 0, 0, 0, 0, []),
  (23, 3, .invokevirtual 242, mM_laysOwners, 0, 10, 196, 0, [(0, 0)]),
  (26, 1, .iload_n 2, 0, 0, 0, 0, 0, []),
  (27, 3, .ifCond .ne 9, 36, 0, 0, 0, 0, []),
  (30, 1, .aload_n 0, 0, 0, 0, 0, 0, []),
  (31, 1, .iload_n 1, 0, 0, 0, 0, 0, []),
  (32, 3, .invokevirtual 400, mM_farthestOf, 1, 10, 237, 0, [(0, 1)]),
  (35, 1, .ireturn, 0, 0, 0, 0, 0, []),
  (36, 1, .iload_n 2, 0, 0, 0, 0, 0, []),
  (37, 1, .iconst 2, 0, 0, 0, 0, 2, []),
  (38, 3, .if_icmp .ne 9, 47, 0, 0, 0, 0, []),
  (41, 1, .aload_n 0, 0, 0, 0, 0, 0, []),
  (42, 1, .iload_n 1, 0, 0, 0, 0, 0, []),
  (43, 3, .invokevirtual 403, mM_outside, 1, 10, 238, 0, [(0, 1)]),
  (46, 1, .ireturn, 0, 0, 0, 0, 0, []),
  (47, 1, .iconst 0, 0, 0, 0, 0, 0, []),
  (48, 1, .istore_n 3, 0, 0, 0, 0, 0, []),
  (49, 1, .iconst 0, 0, 0, 0, 0, 0, []),
  (50, 2, .istore 4, 0, 0, 0, 0, 0, []),
  (52, 2, .iload 4, 0, 0, 0, 0, 0, []),
  (54, 1, .aload_n 0, 0, 0, 0, 0, 0, []),
  (55, 3, .invokevirtual 195, mM_dots, 0, 10, 182, 0, [(0, 1)]),
  (58, 3, .if_icmp .ge 29, 87, 0, 0, 0, 0, []),
  (61, 1, .iload_n 3, 0, 0, 0, 0, 0, []),
  (62, 2, .iload 4, 0, 0, 0, 0, 0, []),
  (64, 1, .iload_n 1, 0, 0, 0, 0, 0, []),
  (65, 3, .if_icmp .ne 7, 72, 0, 0, 0, 0, []),
  (68, 1, .iconst 0, 0, 0, 0, 0, 0, []),
  (69, 3, .goto 10, 79, 0, 0, 0, 0, []),
  (72, 1, .aload_n 0, 0, 0, 0, 0, 0, []),
  (73, 1, .iload_n 1, 0, 0, 0, 0, 0, []),
  (74, 2, .iload 4, 0, 0, 0, 0, 0, []),
  (76, 3, .invokevirtual 365, mM_touches, 2, 10, 227, 0, [(0, 1)]),
  (79, 1, .iadd, 0, 0, 0, 0, 0, []),
  (80, 1, .istore_n 3, 0, 0, 0, 0, 0, []),
  (81, 3, .iinc 4 1, 0, 0, 0, 0, 1, []),
  (84, 3, .goto (-32), 52, 0, 0, 0, 0, []),
  (87, 1, .iload_n 3, 0, 0, 0, 0, 0, []),
  (88, 1, .ireturn, 0, 0, 0, 0, 0, [])]
theorem ckM_edge : cdM_edge.all (rowOK mM_edge) = true := by decide +kernel
def cdM_due : List Row := [
  (0, 1, .iload_n 1, 0, 0, 0, 0, 0, []),
  (1, 1, .i2l, 0, 0, 0, 0, 0, []),
  (2, 1, .lconst 1, 1, 0, 0, 0, 0, []),
  (3, 3, .ldc2_w 291, 9, 0, 0, 14, 0, []),
  (6, 3, .invokestatic 94, mM_isIn, 3, 0, 166, 0, [(0, 1)]),
  (9, 3, .ifCond .ne 5, 14, 0, 0, 0, 0, []),
  (12, 1, .iconst (-1), 0, 0, 0, 0, (-1), []),
  (13, 1, .ireturn, 0, 0, 0, 0, 0, []),
  (14, 1, .aload_n 0, 0, 0, 0, 0, 0, []),
  (15, 3, .invokevirtual 388, mM_allWeights, 0, 10, 233, 0, [(0, 1)]),
  (18, 1, .istore_n 2, 0, 0, 0, 0, 0, []),
  (19, 1, .iload_n 2, 0, 0, 0, 0, 0, []),
  (20, 3, .ifCond .ne 5, 25, 0, 0, 0, 0, []),
  (23, 1, .iconst 0, 0, 0, 0, 0, 0, []),
  (24, 1, .ireturn, 0, 0, 0, 0, 0, []),
  (25, 1, .aload_n 0, 0, 0, 0, 0, 0, []),
  (26, 3, .invokevirtual 195, mM_dots, 0, 10, 182, 0, [(0, 1)]),
  (29, 1, .istore_n 3, 0, 0, 0, 0, 0, []),
  (30, 1, .iconst 1, 0, 0, 0, 0, 1, []),
  (31, 2, .istore 4, 0, 0, 0, 0, 0, []),
  (33, 2, .iload 4, 0, 0, 0, 0, 0, []),
  (35, 2, .bipush 10, 0, 0, 0, 0, 10, []),
  (37, 3, .if_icmp .ge 17, 54, 0, 0, 0, 0, []),
  (40, 1, .aload_n 0, 0, 0, 0, 0, 0, []),
  (41, 3, .getfield 69, 10, 34, 2, 141, 0, []),
  (44, 2, .iload 4, 0, 0, 0, 0, 0, []),
  (46, 1, .iconst 0, 0, 0, 0, 0, 0, []),
  (47, 1, .iastore, 0, 0, 0, 0, 0, []),
  (48, 3, .iinc 4 1, 0, 0, 0, 0, 1, []),
  (51, 3, .goto (-18), 33, 0, 0, 0, 0, []),
  (54, 1, .iconst 0, 0, 0, 0, 0, 0, []),
  (55, 2, .istore 4, 0, 0, 0, 0, 0, []),
  (57, 2, .iload 4, 0, 0, 0, 0, 0, []),
  (59, 1, .aload_n 0, 0, 0, 0, 0, 0, []),
  (60, 3, .invokevirtual 221, mM_cells, 0, 10, 190, 0, [(0, 1)]),
  (63, 3, .if_icmp .ge 29, 92, 0, 0, 0, 0, []),
  (66, 1, .aload_n 0, 0, 0, 0, 0, 0, []),
  (67, 3, .getfield 69, 10, 34, 2, 141, 0, []),
  (70, 1, .aload_n 0, 0, 0, 0, 0, 0, []),
  (71, 2, .iload 4, 0, 0, 0, 0, 0, []),
  (73, 3, .invokevirtual 233, mM_weight, 1, 10, 193, 0, [(0, 1)]),
  (76, 1, .dup2, 0, 0, 0, 0, 0, []),
  (77, 1, .iaload, 0, 0, 0, 0, 0, []),
  (78, 1, .aload_n 0, 0, 0, 0, 0, 0, []),
  (79, 2, .iload 4, 0, 0, 0, 0, 0, []),
  (81, 3, .invokevirtual 233, mM_weight, 1, 10, 193, 0, [(0, 1)]),
  (84, 1, .iadd, 0, 0, 0, 0, 0, []),
  (85, 1, .iastore, 0, 0, 0, 0, 0, []),
  (86, 3, .iinc 4 1, 0, 0, 0, 0, 1, []),
  (89, 3, .goto (-32), 57, 0, 0, 0, 0, []),
  (92, 1, .iconst 1, 0, 0, 0, 0, 1, []),
  (93, 2, .istore 4, 0, 0, 0, 0, 0, []),
  (95, 2, .iload 4, 0, 0, 0, 0, 0, []),
  (97, 2, .bipush 10, 0, 0, 0, 0, 10, []),
  (99, 3, .if_icmp .ge 61, 160, 0, 0, 0, 0, []),
  (102, 1, .aload_n 0, 0, 0, 0, 0, 0, []),
  (103, 3, .getfield 72, 10, 35, 2, 142, 0, []),
  (106, 2, .iload 4, 0, 0, 0, 0, 0, []),
  (108, 1, .aload_n 0, 0, 0, 0, 0, 0, []),
  (109, 3, .invokevirtual 195, mM_dots, 0, 10, 182, 0, [(0, 1)]),
  (112, 1, .aload_n 0, 0, 0, 0, 0, 0, []),
  (113, 3, .getfield 69, 10, 34, 2, 141, 0, []),
  (116, 2, .iload 4, 0, 0, 0, 0, 0, []),
  (118, 1, .iaload, 0, 0, 0, 0, 0, []),
  (119, 1, .imul, 0, 0, 0, 0, 0, []),
  (120, 1, .iload_n 2, 0, 0, 0, 0, 0, []),
  (121, 1, .idiv, 0, 0, 0, 0, 0, []),
  (122, 1, .iastore, 0, 0, 0, 0, 0, []),
  (123, 1, .aload_n 0, 0, 0, 0, 0, 0, []),
  (124, 3, .getfield 75, 10, 36, 2, 143, 0, []),
  (127, 2, .iload 4, 0, 0, 0, 0, 0, []),
  (129, 1, .aload_n 0, 0, 0, 0, 0, 0, []),
  (130, 3, .invokevirtual 195, mM_dots, 0, 10, 182, 0, [(0, 1)]),
  (133, 1, .aload_n 0, 0, 0, 0, 0, 0, []),
  (134, 3, .getfield 69, 10, 34, 2, 141, 0, []),
  (137, 2, .iload 4, 0, 0, 0, 0, 0, []),
  (139, 1, .iaload, 0, 0, 0, 0, 0, []),
  (140, 1, .imul, 0, 0, 0, 0, 0, []),
  (141, 1, .iload_n 2, 0, 0, 0, 0, 0, []),
  (142, 1, .irem, 0, 0, 0, 0, 0, []),
  (143, 1, .iastore, 0, 0, 0, 0, 0, []),
  (144, 1, .iload_n 3, 0, 0, 0, 0, 0, []),
  (145, 1, .aload_n 0, 0, 0, 0, 0, 0, []),
  (146, 3, .getfield 72, 10, 35, 2, 142, 0, []),
  (149, 2, .iload 4, 0, 0, 0, 0, 0, []),
  (151, 1, .iaload, 0, 0, 0, 0, 0, []),
  (152, 1, .isub, 0, 0, 0, 0, 0, []),
  (153, 1, .istore_n 3, 0, 0, 0, 0, 0, []),
  (154, 3, .iinc 4 1, 0, 0, 0, 0, 1, []),
  (157, 3, .goto (-62), 95, 0, 0, 0, 0, []),
  (160, 1, .iconst 0, 0, 0, 0, 0, 0, []),
  (161, 2, .istore 4, 0, 0, 0, 0, 0, []),
  (163, 2, .iload 4, 0, 0, 0, 0, 0, []),
  (165, 1, .iload_n 3, 0, 0, 0, 0, 0, []),
  (166, 3, .if_icmp .ge 68, 234, 0, 0, 0, 0, []),
  (169, 2, .bipush 9, 0, 0, 0, 0, 9, []),
  (171, 2, .istore 5, 0, 0, 0, 0, 0, []),
  (173, 2, .bipush 8, 0, 0, 0, 0, 8, []),
  (175, 2, .istore 6, 0, 0, 0, 0, 0, []),
  (177, 2, .iload 6, 0, 0, 0, 0, 0, []),
  (179, 3, .ifCond .le 30, 209, 0, 0, 0, 0, []),
  (182, 1, .aload_n 0, 0, 0, 0, 0, 0, []),
  (183, 3, .getfield 75, 10, 36, 2, 143, 0, []),
  (186, 2, .iload 6, 0, 0, 0, 0, 0, []),
  (188, 1, .iaload, 0, 0, 0, 0, 0, []),
  (189, 1, .aload_n 0, 0, 0, 0, 0, 0, []),
  (190, 3, .getfield 75, 10, 36, 2, 143, 0, []),
  (193, 2, .iload 5, 0, 0, 0, 0, 0, []),
  (195, 1, .iaload, 0, 0, 0, 0, 0, []),
  (196, 3, .if_icmp .le 7, 203, 0, 0, 0, 0, []),
  (199, 2, .iload 6, 0, 0, 0, 0, 0, []),
  (201, 2, .istore 5, 0, 0, 0, 0, 0, []),
  (203, 3, .iinc 6 (-1), 0, 0, 0, 0, (-1), []),
  (206, 3, .goto (-29), 177, 0, 0, 0, 0, []),
  (209, 1, .aload_n 0, 0, 0, 0, 0, 0, []),
  (210, 3, .getfield 72, 10, 35, 2, 142, 0, []),
  (213, 2, .iload 5, 0, 0, 0, 0, 0, []),
  (215, 1, .dup2, 0, 0, 0, 0, 0, []),
  (216, 1, .iaload, 0, 0, 0, 0, 0, []),
  (217, 1, .iconst 1, 0, 0, 0, 0, 1, []),
  (218, 1, .iadd, 0, 0, 0, 0, 0, []),
  (219, 1, .iastore, 0, 0, 0, 0, 0, []),
  (220, 1, .aload_n 0, 0, 0, 0, 0, 0, []),
  (221, 3, .getfield 75, 10, 36, 2, 143, 0, []),
  (224, 2, .iload 5, 0, 0, 0, 0, 0, []),
  (226, 1, .iconst (-1), 0, 0, 0, 0, (-1), []),
  (227, 1, .iastore, 0, 0, 0, 0, 0, []),
  (228, 3, .iinc 4 1, 0, 0, 0, 0, 1, []),
  (231, 3, .goto (-68), 163, 0, 0, 0, 0, []),
  (234, 1, .aload_n 0, 0, 0, 0, 0, 0, []),
  (235, 3, .getfield 72, 10, 35, 2, 142, 0, []),
  (238, 1, .iload_n 1, 0, 0, 0, 0, 0, []),
  (239, 1, .iaload, 0, 0, 0, 0, 0, []),
  (240, 1, .ireturn, 0, 0, 0, 0, 0, [])]
theorem ckM_due_0 : ((cdM_due.drop 0).take 60).all (rowOK mM_due) = true := by decide +kernel
theorem ckM_due_60 : ((cdM_due.drop 60).take 60).all (rowOK mM_due) = true := by decide +kernel
theorem ckM_due_120 : ((cdM_due.drop 120).take 60).all (rowOK mM_due) = true := by decide +kernel
theorem ckM_due : cdM_due.all (rowOK mM_due) = true := by
  have h : (cdM_due.drop 0).all (rowOK mM_due) = true := (all_cut 60 ckM_due_0 (by rw [List.drop_drop]; exact (all_cut 60 ckM_due_60 (by rw [List.drop_drop]; exact (all_cut 60 ckM_due_120 (by rw [List.drop_drop]; exact (by rw [show cdM_due.drop 180 = [] from rfl]; rfl)))))))
  exact h
def cdM_isBox : List Row := [
  (0, 1, .iload_n 1, 0, 0, 0, 0, 0, []),
  (1, 1, .i2l, 0, 0, 0, 0, 0, []),
  (2, 1, .lconst 0, 0, 0, 0, 0, 0, []),
  (3, 1, .lconst 1, 1, 0, 0, 0, 0, []),
  (4, 3, .invokestatic 94, mM_isIn, 3, 0, 166, 0, [(0, 1)]),
  (7, 1, .ireturn, 0, 0, 1, 0, 0, [])]
theorem ckM_isBox : cdM_isBox.all (rowOK mM_isBox) = true := by decide +kernel
def cdM_image : List Row := [
  (0, 1, .aload_n 0, 0, 0, 0, 0, 0, []),
  (1, 1, .iload_n 1, 0, 0, 0, 0, 0, []),
  (2, 3, .invokevirtual 406, mM_isBox, 1, 10, 239, 0, [(0, 1)]),
  (5, 3, .ifCond .ne 5, 10, 0, 0, 0, 0, []),
  (8, 1, .iconst (-1), 0, 0, 0, 0, (-1), []),
  (9, 1, .ireturn, 0, 0, 0, 0, 0, []),
  (10, 1, .aload_n 0, 0, 0, 0, 0, 0, []),
  (11, 3, .getfield 84, 10, 39, 2, 146, 0, []),
  (14, 1, .iload_n 1, 0, 0, 0, 0, 0, []),
  (15, 1, .iconst 1, 0, 0, 0, 0, 1, []),
  (16, 1, .bastore, 0, 0, 0, 0, 0, []),
  (17, 1, .iconst 0, 0, 0, 0, 0, 0, []),
  (18, 1, .istore_n 2, 0, 0, 0, 0, 0, []),
  (19, 1, .iload_n 2, 0, 0, 0, 0, 0, []),
  (20, 3, .sipush 524, 0, 0, 0, 0, 524, []),
  (23, 3, .if_icmp .ge 27, 50, 0, 0, 0, 0, []),
  (26, 1, .aload_n 0, 0, 0, 0, 0, 0, []),
  (27, 3, .getfield 78, 10, 37, 2, 144, 0, []),
  (30, 3, .sipush 524, 0, 0, 0, 0, 524, []),
  (33, 1, .iload_n 1, 0, 0, 0, 0, 0, []),
  (34, 1, .imul, 0, 0, 0, 0, 0, []),
  (35, 1, .iload_n 2, 0, 0, 0, 0, 0, []),
  (36, 1, .iadd, 0, 0, 0, 0, 0, []),
  (37, 1, .aload_n 0, 0, 0, 0, 0, 0, []),
  (38, 3, .getfield 7, 10, 0, 2, 122, 0, []),
  (41, 1, .iload_n 2, 0, 0, 0, 0, 0, []),
  (42, 1, .iaload, 0, 0, 0, 0, 0, []),
  (43, 1, .iastore, 0, 0, 0, 0, 0, []),
  (44, 3, .iinc 2 1, 0, 0, 0, 0, 1, []),
  (47, 3, .goto (-28), 19, 0, 0, 0, 0, []),
  (50, 1, .aload_n 0, 0, 0, 0, 0, 0, []),
  (51, 3, .invokevirtual 195, mM_dots, 0, 10, 182, 0, [(0, 1)]),
  (54, 1, .ireturn, 0, 0, 0, 0, 0, [])]
theorem ckM_image : cdM_image.all (rowOK mM_image) = true := by decide +kernel
def cdM_back : List Row := [
  (0, 1, .aload_n 0, 0, 0, 0, 0, 0, []),
  (1, 1, .iload_n 1, 0, 0, 0, 0, 0, []),
  (2, 3, .invokevirtual 406, mM_isBox, 1, 10, 239, 0, [(0, 1)]),
  (5, 3, .ifCond .eq 12, 17, 0, 0, 0, 0, []),
  (8, 1, .aload_n 0, 0, 0, 0, 0, 0, []),
  (9, 3, .getfield 84, 10, 39, 2, 146, 0, []),
  (12, 1, .iload_n 1, 0, 0, 0, 0, 0, []),
  (13, 1, .baload, 0, 0, 0, 0, 0, []),
  (14, 3, .ifCond .ne 5, 19, 0, 0, 0, 0, []),
  (17, 1, .iconst (-1), 0, 0, 0, 0, (-1), []),
  (18, 1, .ireturn, 0, 0, 0, 0, 0, []),
  (19, 1, .iconst 0, 0, 0, 0, 0, 0, []),
  (20, 1, .istore_n 2, 0, 0, 0, 0, 0, []),
  (21, 1, .iload_n 2, 0, 0, 0, 0, 0, []),
  (22, 3, .sipush 524, 0, 0, 0, 0, 524, []),
  (25, 3, .if_icmp .ge 27, 52, 0, 0, 0, 0, []),
  (28, 1, .aload_n 0, 0, 0, 0, 0, 0, []),
  (29, 3, .getfield 7, 10, 0, 2, 122, 0, []),
  (32, 1, .iload_n 2, 0, 0, 0, 0, 0, []),
  (33, 1, .aload_n 0, 0, 0, 0, 0, 0, []),
  (34, 3, .getfield 78, 10, 37, 2, 144, 0, []),
  (37, 3, .sipush 524, 0, 0, 0, 0, 524, []),
  (40, 1, .iload_n 1, 0, 0, 0, 0, 0, []),
  (41, 1, .imul, 0, 0, 0, 0, 0, []),
  (42, 1, .iload_n 2, 0, 0, 0, 0, 0, []),
  (43, 1, .iadd, 0, 0, 0, 0, 0, []),
  (44, 1, .iaload, 0, 0, 0, 0, 0, []),
  (45, 1, .iastore, 0, 0, 0, 0, 0, []),
  (46, 3, .iinc 2 1, 0, 0, 0, 0, 1, []),
  (49, 3, .goto (-28), 21, 0, 0, 0, 0, []),
  (52, 1, .aload_n 0, 0, 0, 0, 0, 0, []),
  (53, 1, .iconst 0, 0, 0, 0, 0, 0, []),
  (54, 3, .putfield 173, 10, 17, 0, 158, 0, []),
  (57, 1, .aload_n 0, 0, 0, 0, 0, 0, []),
  (58, 1, .iconst 0, 0, 0, 0, 0, 0, []),
  (59, 3, .putfield 176, 10, 18, 0, 159, 0, []),
  (62, 1, .aload_n 0, 0, 0, 0, 0, 0, []),
  (63, 1, .iconst 0, 0, 0, 0, 0, 0, []),
  (64, 3, .putfield 179, 10, 27, 0, 160, 0, []),
  (67, 1, .aload_n 0, 0, 0, 0, 0, 0, []),
  (68, 3, .invokevirtual 195, mM_dots, 0, 10, 182, 0, [(0, 1)]),
  (71, 1, .ireturn, 0, 0, 0, 0, 0, [])]
theorem ckM_back : cdM_back.all (rowOK mM_back) = true := by decide +kernel
def cdM_otherOwners : List Row := [
  (0, 1, .aload_n 0, 0, 0, 0, 0, 0, []),
  (1, 3, .invokevirtual 326, mM_puts, 0, 10, 217, 0, [(0, 0)]),
  (4, 1, .iconst 0, 0, 0, 0, 0, 0, []),
  (5, 1, .istore_n 2, 0, 0, 0, 0, 0, []),
  (6, 1, .iload_n 2, 0, 0, 0, 0, 0, []),
  (7, 3, .sipush 524, 0, 0, 0, 0, 524, []),
  (10, 3, .if_icmp .ge 27, 37, 0, 0, 0, 0, []),
  (13, 1, .aload_n 0, 0, 0, 0, 0, 0, []),
  (14, 3, .getfield 7, 10, 0, 2, 122, 0, []),
  (17, 1, .iload_n 2, 0, 0, 0, 0, 0, []),
  (18, 1, .aload_n 0, 0, 0, 0, 0, 0, []),
  (19, 3, .getfield 78, 10, 37, 2, 144, 0, []),
  (22, 3, .sipush 524, 0, 0, 0, 0, 524, []),
  (25, 1, .iload_n 1, 0, 0, 0, 0, 0, []),
  (26, 1, .imul, 0, 0, 0, 0, 0, []),
  (27, 1, .iload_n 2, 0, 0, 0, 0, 0, []),
  (28, 1, .iadd, 0, 0, 0, 0, 0, []),
  (29, 1, .iaload, 0, 0, 0, 0, 0, []),
  (30, 1, .iastore, 0, 0, 0, 0, 0, []),
  (31, 3, .iinc 2 1, 0, 0, 0, 0, 1, []),
  (34, 3, .goto (-28), 6, 0, 0, 0, 0, []),
  (37, 1, .aload_n 0, 0, 0, 0, 0, 0, []),
  (38, 3, .invokevirtual 242, mM_laysOwners, 0, 10, 196, 0, [(0, 0)]),
  (41, 1, .iconst 0, 0, 0, 0, 0, 0, []),
  (42, 1, .istore_n 2, 0, 0, 0, 0, 0, []),
  (43, 1, .iload_n 2, 0, 0, 0, 0, 0, []),
  (44, 1, .aload_n 0, 0, 0, 0, 0, 0, []),
  (45, 3, .invokevirtual 221, mM_cells, 0, 10, 190, 0, [(0, 1)]),
  (48, 3, .if_icmp .ge 21, 69, 0, 0, 0, 0, []),
  (51, 1, .aload_n 0, 0, 0, 0, 0, 0, []),
  (52, 3, .getfield 81, 10, 38, 2, 145, 0, []),
  (55, 1, .iload_n 2, 0, 0, 0, 0, 0, []),
  (56, 1, .aload_n 0, 0, 0, 0, 0, 0, []),
  (57, 3, .getfield 29, 10, 19, 2, 128, 0, []),
  (60, 1, .iload_n 2, 0, 0, 0, 0, 0, []),
  (61, 1, .iaload, 0, 0, 0, 0, 0, []),
  (62, 1, .iastore, 0, 0, 0, 0, 0, []),
  (63, 3, .iinc 2 1, 0, 0, 0, 0, 1, []),
  (66, 3, .goto (-23), 43, 0, 0, 0, 0, []),
  (69, 1, .aload_n 0, 0, 0, 0, 0, 0, []),
  (70, 3, .invokevirtual 329, mM_takesBack, 0, 10, 218, 0, [(0, 0)]),
  (73, 1, .aload_n 0, 0, 0, 0, 0, 0, []),
  (74, 3, .invokevirtual 242, mM_laysOwners, 0, 10, 196, 0, [(0, 0)]),
  (77, 1, .iconst 0, 0, 0, 0, 0, 0, []),
  (78, 1, .istore_n 2, 0, 0, 0, 0, 0, []),
  (79, 1, .iconst 0, 0, 0, 0, 0, 0, []),
  (80, 1, .istore_n 3, 0, 0, 0, 0, 0, []),
  (81, 1, .iload_n 3, 0, 0, 0, 0, 0, []),
  (82, 1, .aload_n 0, 0, 0, 0, 0, 0, []),
  (83, 3, .invokevirtual 221, mM_cells, 0, 10, 190, 0, [(0, 1)]),
  (86, 3, .if_icmp .ge 35, 121, 0, 0, 0, 0, []),
  (89, 1, .iload_n 2, 0, 0, 0, 0, 0, []),
  (90, 1, .aload_n 0, 0, 0, 0, 0, 0, []),
  (91, 3, .getfield 29, 10, 19, 2, 128, 0, []),
  (94, 1, .iload_n 3, 0, 0, 0, 0, 0, []),
  (95, 1, .iaload, 0, 0, 0, 0, 0, []),
  (96, 1, .aload_n 0, 0, 0, 0, 0, 0, []),
  (97, 3, .getfield 81, 10, 38, 2, 145, 0, []),
  (100, 1, .iload_n 3, 0, 0, 0, 0, 0, []),
  (101, 1, .iaload, 0, 0, 0, 0, 0, []),
  (102, 3, .if_icmp .eq 7, 109, 0, 0, 0, 0, []),
  (105, 1, .iconst 1, 0, 0, 0, 0, 1, []),
  (106, 3, .goto 4, 110, 0, 0, 0, 0, []),
  (109, 1, .iconst 0, 0, 0, 0, 0, 0, []),
  (110, 3, .invokestatic 284, mM_truth, 1, 0, 206, 0, [(0, 1)]),
  (113, 1, .iadd, 0, 0, 0, 0, 0, []),
  (114, 1, .istore_n 2, 0, 0, 0, 0, 0, []),
  (115, 3, .iinc 3 1, 0, 0, 0, 0, 1, []),
  (118, 3, .goto (-37), 81, 0, 0, 0, 0, []),
  (121, 1, .iload_n 2, 0, 0, 0, 0, 0, []),
  (122, 1, .ireturn, 0, 0, 0, 0, 0, [])]
theorem ckM_otherOwners_0 : ((cdM_otherOwners.drop 0).take 60).all (rowOK mM_otherOwners) = true := by decide +kernel
theorem ckM_otherOwners_60 : ((cdM_otherOwners.drop 60).take 60).all (rowOK mM_otherOwners) = true := by decide +kernel
theorem ckM_otherOwners : cdM_otherOwners.all (rowOK mM_otherOwners) = true := by
  have h : (cdM_otherOwners.drop 0).all (rowOK mM_otherOwners) = true := (all_cut 60 ckM_otherOwners_0 (by rw [List.drop_drop]; exact (all_cut 60 ckM_otherOwners_60 (by rw [List.drop_drop]; exact (by rw [show cdM_otherOwners.drop 120 = [] from rfl]; rfl)))))
  exact h
def cdM_against : List Row := [
  (0, 1, .aload_n 0, 0, 0, 0, 0, 0, []),
  (1, 1, .iload_n 1, 0, 0, 0, 0, 0, []),
  (2, 3, .invokevirtual 406, mM_isBox, 1, 10, 239, 0, [(0, 1)]),
  (5, 3, .ifCond .eq 24, 29, 0, 0, 0, 0, []),
  (8, 1, .aload_n 0, 0, 0, 0, 0, 0, []),
  (9, 3, .getfield 84, 10, 39, 2, 146, 0, []),
  (12, 1, .iload_n 1, 0, 0, 0, 0, 0, []),
  (13, 1, .baload, 0, 0, 0, 0, 0, []),
  (14, 3, .ifCond .eq 15, 29, 0, 0, 0, 0, []),
  (17, 1, .iload_n 2, 0, 0, 0, 0, 0, []),
  (18, 1, .i2l, 0, 0, 0, 0, 0, []),
  (19, 1, .lconst 0, 0, 0, 0, 0, 0, []),
  (20, 3, .ldc2_w 361, 2, 0, 0, 18, 0, []),
  (23, 3, .invokestatic 94, mM_isIn, 3, 0, 166, 0, [(0, 1)]),
  (26, 3, .ifCond .ne 5, 31, 0, 0, 0, 0, []),
  (29, 1, .iconst (-1), 0, 0, 0, 0, (-1), []),
  (30, 1, .ireturn, 0, 0, 0, 0, 0, []),
  (31, 3, .sipush 524, 0, 0, 0, 0, 524, []),
  (34, 1, .iload_n 1, 0, 0, 0, 0, 0, []),
  (35, 1, .imul, 0, 0, 0, 0, 0, []),
  (36, 1, .istore_n 3, 0, 0, 0, 0, 0, []),
  (37, 1, .aload_n 0, 0, 0, 0, 0, 0, []),
  (38, 3, .getfield 78, 10, 37, 2, 144, 0, []),
  (41, 1, .iload_n 3, 0, 0, 0, 0, 0, []),
  (42, 1, .iconst 0, 0, 0, 0, 0, 0, []),
  (43, 1, .iadd, 0, 0, 0, 0, 0, []),
  (44, 1, .iaload, 0, 0, 0, 0, 0, []),
  (45, 1, .aload_n 0, 0, 0, 0, 0, 0, []),
  (46, 3, .invokevirtual 188, mM_wide, 0, 10, 180, 0, [(0, 1)]),
  (49, 3, .if_icmp .ne 18, 67, 0, 0, 0, 0, []),
  (52, 1, .aload_n 0, 0, 0, 0, 0, 0, []),
  (53, 3, .getfield 78, 10, 37, 2, 144, 0, []),
  (56, 1, .iload_n 3, 0, 0, 0, 0, 0, []),
  (57, 1, .iconst 1, 0, 0, 0, 0, 1, []),
  (58, 1, .iadd, 0, 0, 0, 0, 0, []),
  (59, 1, .iaload, 0, 0, 0, 0, 0, []),
  (60, 1, .aload_n 0, 0, 0, 0, 0, 0, []),
  (61, 3, .invokevirtual 192, mM_high, 0, 10, 181, 0, [(0, 1)]),
  (64, 3, .if_icmp .eq 5, 69, 0, 0, 0, 0, []),
  (67, 1, .iconst (-1), 0, 0, 0, 0, (-1), []),
  (68, 1, .ireturn, 0, 0, 0, 0, 0, []),
  (69, 1, .iload_n 2, 0, 0, 0, 0, 0, []),
  (70, 3, .ifCond .ne 9, 79, 0, 0, 0, 0, []),
  (73, 1, .aload_n 0, 0, 0, 0, 0, 0, []),
  (74, 1, .iload_n 1, 0, 0, 0, 0, 0, []),
  (75, 3, .invokevirtual 409, mM_otherOwners, 1, 10, 240, 0, [(0, 1)]),
  (78, 1, .ireturn, 0, 0, 0, 0, 0, []),
  (79, 1, .iconst 0, 0, 0, 0, 0, 0, []),
  (80, 2, .istore 4, 0, 0, 0, 0, 0, []),
  (82, 1, .iload_n 2, 0, 0, 0, 0, 0, []),
  (83, 1, .iconst 1, 0, 0, 0, 0, 1, []),
  (84, 3, .if_icmp .ne 54, 138, 0, 0, 0, 0, []),
  (87, 1, .iconst 0, 0, 0, 0, 0, 0, []),
  (88, 2, .istore 5, 0, 0, 0, 0, 0, []),
  (90, 2, .iload 5, 0, 0, 0, 0, 0, []),
  (92, 1, .aload_n 0, 0, 0, 0, 0, 0, []),
  (93, 3, .invokevirtual 221, mM_cells, 0, 10, 190, 0, [(0, 1)]),
  (96, 3, .if_icmp .ge 42, 138, 0, 0, 0, 0, []),
  (99, 2, .iload 4, 0, 0, 0, 0, 0, []),
  (101, 1, .aload_n 0, 0, 0, 0, 0, 0, []),
  (102, 3, .getfield 78, 10, 37, 2, 144, 0, []),
  (105, 1, .iload_n 3, 0, 0, 0, 0, 0, []),
  (106, 1, .iconst 4, 0, 0, 0, 0, 4, []),
  (107, 1, .iadd, 0, 0, 0, 0, 0, []),
  (108, 2, .iload 5, 0, 0, 0, 0, 0, []),
  (110, 1, .iadd, 0, 0, 0, 0, 0, []),
  (111, 1, .iaload, 0, 0, 0, 0, 0, []),
  (112, 1, .aload_n 0, 0, 0, 0, 0, 0, []),
  (113, 2, .iload 5, 0, 0, 0, 0, 0, []),
  (115, 3, .invokevirtual 233, mM_weight, 1, 10, 193, 0, [(0, 1)]),
  (118, 3, .if_icmp .eq 7, 125, 0, 0, 0, 0, []),
  (121, 1, .iconst 1, 0, 0, 0, 0, 1, []),
  (122, 3, .goto 4, 126, 0, 0, 0, 0, []),
  (125, 1, .iconst 0, 0, 0, 0, 0, 0, []),
  (126, 3, .invokestatic 284, mM_truth, 1, 0, 206, 0, [(0, 1)]),
  (129, 1, .iadd, 0, 0, 0, 0, 0, []),
  (130, 2, .istore 4, 0, 0, 0, 0, 0, []),
  (132, 3, .iinc 5 1, 0, 0, 0, 0, 1, []),
  (135, 3, .goto (-45), 90, 0, 0, 0, 0, []),
  (138, 1, .iconst 0, 0, 0, 0, 0, 0, []),
  (139, 2, .istore 5, 0, 0, 0, 0, 0, []),
  (141, 1, .iload_n 2, 0, 0, 0, 0, 0, []),
  (142, 1, .iconst 2, 0, 0, 0, 0, 2, []),
  (143, 3, .if_icmp .ne 54, 197, 0, 0, 0, 0, []),
  (146, 2, .iload 5, 0, 0, 0, 0, 0, []),
  (148, 1, .aload_n 0, 0, 0, 0, 0, 0, []),
  (149, 3, .invokevirtual 195, mM_dots, 0, 10, 182, 0, [(0, 1)]),
  (152, 3, .if_icmp .ge 45, 197, 0, 0, 0, 0, []),
  (155, 2, .iload 5, 0, 0, 0, 0, 0, []),
  (157, 1, .aload_n 0, 0, 0, 0, 0, 0, []),
  (158, 3, .getfield 78, 10, 37, 2, 144, 0, []),
  (161, 1, .iload_n 3, 0, 0, 0, 0, 0, []),
  (162, 1, .iconst 3, 0, 0, 0, 0, 3, []),
  (163, 1, .iadd, 0, 0, 0, 0, 0, []),
  (164, 1, .iaload, 0, 0, 0, 0, 0, []),
  (165, 3, .if_icmp .ge 32, 197, 0, 0, 0, 0, []),
  (168, 2, .iload 4, 0, 0, 0, 0, 0, []),
  (170, 1, .aload_n 0, 0, 0, 0, 0, 0, []),
  (171, 1, .aload_n 0, 0, 0, 0, 0, 0, []),
  (172, 3, .getfield 78, 10, 37, 2, 144, 0, []),
  (175, 1, .iload_n 3, 0, 0, 0, 0, 0, []),
  (176, 3, .sipush 404, 0, 0, 0, 0, 404, []),
  (179, 1, .iadd, 0, 0, 0, 0, 0, []),
  (180, 2, .iload 5, 0, 0, 0, 0, 0, []),
  (182, 3, .invokevirtual 311, mM_isElsewhere, 3, 10, 213, 0, [(0, 1)]),
  (185, 3, .invokestatic 284, mM_truth, 1, 0, 206, 0, [(0, 1)]),
  (188, 1, .iadd, 0, 0, 0, 0, 0, []),
  (189, 2, .istore 4, 0, 0, 0, 0, 0, []),
  (191, 3, .iinc 5 1, 0, 0, 0, 0, 1, []),
  (194, 3, .goto (-53), 141, 0, 0, 0, 0, []),
  (197, 2, .iload 4, 0, 0, 0, 0, 0, []),
  (199, 1, .ireturn, 0, 0, 0, 0, 0, [])]
theorem ckM_against_0 : ((cdM_against.drop 0).take 60).all (rowOK mM_against) = true := by decide +kernel
theorem ckM_against_60 : ((cdM_against.drop 60).take 60).all (rowOK mM_against) = true := by decide +kernel
theorem ckM_against : cdM_against.all (rowOK mM_against) = true := by
  have h : (cdM_against.drop 0).all (rowOK mM_against) = true := (all_cut 60 ckM_against_0 (by rw [List.drop_drop]; exact (all_cut 60 ckM_against_60 (by rw [List.drop_drop]; exact (by rw [show cdM_against.drop 120 = [] from rfl]; rfl)))))
  exact h
def cdM_emptyOnes : List Row := [
  (0, 1, .aload_n 0, 0, 0, 0, 0, 0, []),
  (1, 3, .invokevirtual 299, mM_laysLoads, 0, 10, 210, 0, [(0, 0)]),
  (4, 1, .iconst 0, 0, 0, 0, 0, 0, []),
  (5, 1, .istore_n 1, 0, 0, 0, 0, 0, []),
  (6, 1, .iconst 0, 0, 0, 0, 0, 0, []),
  (7, 1, .istore_n 2, 0, 0, 0, 0, 0, []),
  (8, 1, .iload_n 2, 0, 0, 0, 0, 0, []),
  (9, 1, .aload_n 0, 0, 0, 0, 0, 0, []),
  (10, 3, .invokevirtual 195, mM_dots, 0, 10, 182, 0, [(0, 1)]),
  (13, 3, .if_icmp .ge 29, 42, 0, 0, 0, 0, []),
  (16, 1, .iload_n 1, 0, 0, 0, 0, 0, []),
  (17, 1, .aload_n 0, 0, 0, 0, 0, 0, []),
  (18, 3, .getfield 32, 10, 20, 2, 129, 0, []),
  (21, 1, .iload_n 2, 0, 0, 0, 0, 0, []),
  (22, 1, .iaload, 0, 0, 0, 0, 0, []),
  (23, 3, .ifCond .ne 7, 30, 0, 0, 0, 0, []),
  (26, 1, .iconst 1, 0, 0, 0, 0, 1, []),
  (27, 3, .goto 4, 31, 0, 0, 0, 0, []),
  (30, 1, .iconst 0, 0, 0, 0, 0, 0, []),
  (31, 3, .invokestatic 284, mM_truth, 1, 0, 206, 0, [(0, 1)]),
  (34, 1, .iadd, 0, 0, 0, 0, 0, []),
  (35, 1, .istore_n 1, 0, 0, 0, 0, 0, []),
  (36, 3, .iinc 2 1, 0, 0, 0, 0, 1, []),
  (39, 3, .goto (-31), 8, 0, 0, 0, 0, []),
  (42, 1, .iload_n 1, 0, 0, 0, 0, 0, []),
  (43, 1, .ireturn, 0, 0, 0, 0, 0, [])]
theorem ckM_emptyOnes : cdM_emptyOnes.all (rowOK mM_emptyOnes) = true := by decide +kernel
def cdM_about : List Row := [
  (0, 1, .iload_n 1, 0, 0, 0, 0, 0, []),
  (1, 55, .tableswitch 107 0 9 #[55, 60, 65, 70, 75, 80, 85, 92, 97, 102], 108, 0, 0, 0, 0, [(0, 56), (1, 61), (2, 66), (3, 71), (4, 76), (5, 81), (6, 86), (7, 93), (8, 98), (9, 103)]),
  (56, 1, .aload_n 0, 0, 0, 0, 0, 0, []),
  (57, 3, .invokevirtual 188, mM_wide, 0, 10, 180, 0, [(0, 1)]),
  (60, 1, .ireturn, 0, 0, 0, 0, 0, []),
  (61, 1, .aload_n 0, 0, 0, 0, 0, 0, []),
  (62, 3, .invokevirtual 192, mM_high, 0, 10, 181, 0, [(0, 1)]),
  (65, 1, .ireturn, 0, 0, 0, 0, 0, []),
  (66, 1, .aload_n 0, 0, 0, 0, 0, 0, []),
  (67, 3, .invokevirtual 195, mM_dots, 0, 10, 182, 0, [(0, 1)]),
  (70, 1, .ireturn, 0, 0, 0, 0, 0, []),
  (71, 1, .aload_n 0, 0, 0, 0, 0, 0, []),
  (72, 3, .invokevirtual 388, mM_allWeights, 0, 10, 233, 0, [(0, 1)]),
  (75, 1, .ireturn, 0, 0, 0, 0, 0, []),
  (76, 1, .aload_n 0, 0, 0, 0, 0, 0, []),
  (77, 3, .invokevirtual 317, mM_allCost, 0, 10, 214, 0, [(0, 1)]),
  (80, 1, .ireturn, 0, 0, 0, 0, 0, []),
  (81, 1, .aload_n 0, 0, 0, 0, 0, 0, []),
  (82, 3, .invokevirtual 412, mM_emptyOnes, 0, 10, 241, 0, [(0, 1)]),
  (85, 1, .ireturn, 0, 0, 0, 0, 0, []),
  (86, 1, .aload_n 0, 0, 0, 0, 0, 0, []),
  (87, 3, .getfield 7, 10, 0, 2, 122, 0, []),
  (90, 1, .iconst 2, 0, 0, 0, 0, 2, []),
  (91, 1, .iaload, 0, 0, 0, 0, 0, []),
  (92, 1, .ireturn, 0, 0, 0, 0, 0, []),
  (93, 1, .aload_n 0, 0, 0, 0, 0, 0, []),
  (94, 3, .getfield 173, 10, 17, 0, 158, 0, []),
  (97, 1, .ireturn, 0, 0, 0, 0, 0, []),
  (98, 1, .aload_n 0, 0, 0, 0, 0, 0, []),
  (99, 3, .getfield 176, 10, 18, 0, 159, 0, []),
  (102, 1, .ireturn, 0, 0, 0, 0, 0, []),
  (103, 1, .aload_n 0, 0, 0, 0, 0, 0, []),
  (104, 3, .getfield 87, 10, 2, 0, 147, 0, []),
  (107, 1, .ireturn, 0, 0, 0, 0, 0, []),
  (108, 1, .iconst (-1), 0, 0, 0, 0, (-1), []),
  (109, 1, .ireturn, 0, 0, 0, 0, 0, [])]
theorem ckM_about : cdM_about.all (rowOK mM_about) = true := by decide +kernel
end
section
/-! ===== the walk inside a method, an instruction a row ===== -/
/-- the machine at a method's entry -/
def EV (M : MD) (p : Program) (s : State) (m : MethodId) (args : Array Value) (meth : Method) (c : Code) : Prop := p.tables.exec = Jvm.exec ∧ c.code = mdB M ∧ meth.sig.returnType = mdT M ∧ c.maxLocals = mdL M ∧ s.vm.findClass (mdN M).cls = some m.cls ∧ (∀ w ∈ lw_ok, w.before args s = true) ∧ meth.locks = false ∧ meth.name = (mdN M).name
/-- from here the method comes to its end, with K of its answer and of the heap then -/
def Go (G : GP) (l : Launch) (M : MD) (pc : Nat) (ls : List (Option AV)) (st : List AV) (h : AH) (uc us : Nat) (K : Option AV → AH → Prop) : Prop :=
  ∀ (p : Program) (e : Env) (s : State) (m : MethodId) (args : Array Value) (below : List Frame) (meth : Method) (c : Code) (ad : Nat → Nat) (A : Nat → Prop) (H : Heap) (locs : List Loc) (la : Array Slot),
    EV M p s m args meth c → (∀ q, s.heap.size ≤ q → A q) → Wd G ad h A s H → XT G A s s.heap → va_S A s.heap H locs → LV ad la (mdL M) ls →
    W p l e (mdR M) s m args below meth c H locs uc us (MQ below (Qs G ((mdR M).cells - uc) ad h A K) args s (mdR M).cells (mdR M).slots A) (F0 m pc la (st.map (cv ad)))
theorem cv_ref {ad : Nat → Nat} {x : Nat} (h0 : 0 < x) : cv ad (vR x) = .ref (ad x) := by
  have e0 : ¬ x = 0 := by omega
  simp [cv, hd, e0, va_rf]
section GoRows
variable {G : GP} {l : Launch} {M : MD} {pc : Nat} {ls : List (Option AV)} {st : List AV} {h : AH} {uc us : Nat} {K : Option AV → AH → Prop}
theorem Go.mono {K' : Option AV → AH → Prop} (q : Go G l M pc ls st h uc us K) (hk : ∀ r h', K r h' → K' r h') : Go G l M pc ls st h uc us K' := by
  intro p e s m args below meth c ad A H locs la E hA hw hx hS hl
  exact W.mono (fun t z => MQ.mono (fun _ _ y => Qs.mono hk y) z) (q p e s m args below meth c ad A H locs la E hA hw hx hS hl)
theorem LV.weaken {ad : Nat → Nat} {la : Array Slot} {n : Nat} {ls ls' : List (Option AV)} (h : LV ad la n ls) (hs : ∀ (i : Nat) (a : AV), ls'[i]? = some (some a) → ls[i]? = some (some a)) : LV ad la n ls' := ⟨h.1, h.2.1, fun i a q => h.2.2 i a (hs i a q)⟩
theorem Go.forget {ls' : List (Option AV)} (q : Go G l M pc ls' st h uc us K) (hs : ∀ (i : Nat) (a : AV), ls'[i]? = some (some a) → ls[i]? = some (some a)) : Go G l M pc ls st h uc us K :=
  fun p e s m args below meth c ad A H locs la E hA hw hx hS hl => q p e s m args below meth c ad A H locs la E hA hw hx hS (hl.weaken hs)
theorem Go.iadd {x y : Int32} (hd : decode (mdB M) pc = .ok (.iadd, 1)) (k : Go G l M (pc + 1) ls (vI (x + y) :: st) h uc us K) : Go G l M pc ls (vI y :: vI x :: st) h uc us K := by
  intro p e s m args below meth c ad A H locs la E hA hw hx hS hl
  exact lv_iadd E.1 E.2.1 hd (k p e s m args below meth c ad A H locs la E hA hw hx hS hl)
theorem Go.isub {x y : Int32} (hd : decode (mdB M) pc = .ok (.isub, 1)) (k : Go G l M (pc + 1) ls (vI (x - y) :: st) h uc us K) : Go G l M pc ls (vI y :: vI x :: st) h uc us K := by
  intro p e s m args below meth c ad A H locs la E hA hw hx hS hl
  exact lv_isub E.1 E.2.1 hd (k p e s m args below meth c ad A H locs la E hA hw hx hS hl)
theorem Go.imul {x y : Int32} (hd : decode (mdB M) pc = .ok (.imul, 1)) (k : Go G l M (pc + 1) ls (vI (x * y) :: st) h uc us K) : Go G l M pc ls (vI y :: vI x :: st) h uc us K := by
  intro p e s m args below meth c ad A H locs la E hA hw hx hS hl
  exact lv_imul E.1 E.2.1 hd (k p e s m args below meth c ad A H locs la E hA hw hx hS hl)
theorem Go.iand {x y : Int32} (hd : decode (mdB M) pc = .ok (.iand, 1)) (k : Go G l M (pc + 1) ls (vI (x &&& y) :: st) h uc us K) : Go G l M pc ls (vI y :: vI x :: st) h uc us K := by
  intro p e s m args below meth c ad A H locs la E hA hw hx hS hl
  exact lv_iand E.1 E.2.1 hd (k p e s m args below meth c ad A H locs la E hA hw hx hS hl)
theorem Go.ior {x y : Int32} (hd : decode (mdB M) pc = .ok (.ior, 1)) (k : Go G l M (pc + 1) ls (vI (x ||| y) :: st) h uc us K) : Go G l M pc ls (vI y :: vI x :: st) h uc us K := by
  intro p e s m args below meth c ad A H locs la E hA hw hx hS hl
  exact lv_ior E.1 E.2.1 hd (k p e s m args below meth c ad A H locs la E hA hw hx hS hl)
theorem Go.ixor {x y : Int32} (hd : decode (mdB M) pc = .ok (.ixor, 1)) (k : Go G l M (pc + 1) ls (vI (x ^^^ y) :: st) h uc us K) : Go G l M pc ls (vI y :: vI x :: st) h uc us K := by
  intro p e s m args below meth c ad A H locs la E hA hw hx hS hl
  exact lv_ixor E.1 E.2.1 hd (k p e s m args below meth c ad A H locs la E hA hw hx hS hl)
theorem Go.ishl {x y : Int32} (hd : decode (mdB M) pc = .ok (.ishl, 1)) (k : Go G l M (pc + 1) ls (vI (x <<< (y &&& 31)) :: st) h uc us K) : Go G l M pc ls (vI y :: vI x :: st) h uc us K := by
  intro p e s m args below meth c ad A H locs la E hA hw hx hS hl
  exact lv_ishl E.1 E.2.1 hd (k p e s m args below meth c ad A H locs la E hA hw hx hS hl)
theorem Go.ishr {x y : Int32} (hd : decode (mdB M) pc = .ok (.ishr, 1)) (k : Go G l M (pc + 1) ls (vI (x >>> (y &&& 31)) :: st) h uc us K) : Go G l M pc ls (vI y :: vI x :: st) h uc us K := by
  intro p e s m args below meth c ad A H locs la E hA hw hx hS hl
  exact lv_ishr E.1 E.2.1 hd (k p e s m args below meth c ad A H locs la E hA hw hx hS hl)
theorem Go.idiv {x y : Int32} (hd : decode (mdB M) pc = .ok (.idiv, 1)) (hne : ¬ y = 0) (k : Go G l M (pc + 1) ls (vI (x / y) :: st) h uc us K) : Go G l M pc ls (vI y :: vI x :: st) h uc us K := by
  intro p e s m args below meth c ad A H locs la E hA hw hx hS hl
  exact lv_idiv E.1 E.2.1 hd hne (k p e s m args below meth c ad A H locs la E hA hw hx hS hl)
theorem Go.irem {x y : Int32} (hd : decode (mdB M) pc = .ok (.irem, 1)) (hne : ¬ y = 0) (k : Go G l M (pc + 1) ls (vI (x - x / y * y) :: st) h uc us K) : Go G l M pc ls (vI y :: vI x :: st) h uc us K := by
  intro p e s m args below meth c ad A H locs la E hA hw hx hS hl
  exact lv_irem E.1 E.2.1 hd hne (k p e s m args below meth c ad A H locs la E hA hw hx hS hl)
theorem Go.ladd {x y : Int64} (hd : decode (mdB M) pc = .ok (.ladd, 1)) (k : Go G l M (pc + 1) ls (vL (x + y) :: st) h uc us K) : Go G l M pc ls (vL y :: vL x :: st) h uc us K := by
  intro p e s m args below meth c ad A H locs la E hA hw hx hS hl
  exact lv_ladd E.1 E.2.1 hd (k p e s m args below meth c ad A H locs la E hA hw hx hS hl)
theorem Go.lsub {x y : Int64} (hd : decode (mdB M) pc = .ok (.lsub, 1)) (k : Go G l M (pc + 1) ls (vL (x - y) :: st) h uc us K) : Go G l M pc ls (vL y :: vL x :: st) h uc us K := by
  intro p e s m args below meth c ad A H locs la E hA hw hx hS hl
  exact lv_lsub E.1 E.2.1 hd (k p e s m args below meth c ad A H locs la E hA hw hx hS hl)
theorem Go.lmul {x y : Int64} (hd : decode (mdB M) pc = .ok (.lmul, 1)) (k : Go G l M (pc + 1) ls (vL (x * y) :: st) h uc us K) : Go G l M pc ls (vL y :: vL x :: st) h uc us K := by
  intro p e s m args below meth c ad A H locs la E hA hw hx hS hl
  exact lv_lmul E.1 E.2.1 hd (k p e s m args below meth c ad A H locs la E hA hw hx hS hl)
theorem Go.land {x y : Int64} (hd : decode (mdB M) pc = .ok (.land, 1)) (k : Go G l M (pc + 1) ls (vL (x &&& y) :: st) h uc us K) : Go G l M pc ls (vL y :: vL x :: st) h uc us K := by
  intro p e s m args below meth c ad A H locs la E hA hw hx hS hl
  exact lv_land E.1 E.2.1 hd (k p e s m args below meth c ad A H locs la E hA hw hx hS hl)
theorem Go.lor {x y : Int64} (hd : decode (mdB M) pc = .ok (.lor, 1)) (k : Go G l M (pc + 1) ls (vL (x ||| y) :: st) h uc us K) : Go G l M pc ls (vL y :: vL x :: st) h uc us K := by
  intro p e s m args below meth c ad A H locs la E hA hw hx hS hl
  exact lv_lor E.1 E.2.1 hd (k p e s m args below meth c ad A H locs la E hA hw hx hS hl)
theorem Go.ldiv {x y : Int64} (hd : decode (mdB M) pc = .ok (.ldiv, 1)) (hne : ¬ y = 0) (k : Go G l M (pc + 1) ls (vL (x / y) :: st) h uc us K) : Go G l M pc ls (vL y :: vL x :: st) h uc us K := by
  intro p e s m args below meth c ad A H locs la E hA hw hx hS hl
  exact lv_ldiv E.1 E.2.1 hd hne (k p e s m args below meth c ad A H locs la E hA hw hx hS hl)
theorem Go.lrem {x y : Int64} (hd : decode (mdB M) pc = .ok (.lrem, 1)) (hne : ¬ y = 0) (k : Go G l M (pc + 1) ls (vL (x - x / y * y) :: st) h uc us K) : Go G l M pc ls (vL y :: vL x :: st) h uc us K := by
  intro p e s m args below meth c ad A H locs la E hA hw hx hS hl
  exact lv_lrem E.1 E.2.1 hd hne (k p e s m args below meth c ad A H locs la E hA hw hx hS hl)
theorem Go.ineg {x : Int32} (hd : decode (mdB M) pc = .ok (.ineg, 1)) (k : Go G l M (pc + 1) ls (vI (-x) :: st) h uc us K) : Go G l M pc ls (vI x :: st) h uc us K := by
  intro p e s m args below meth c ad A H locs la E hA hw hx hS hl
  exact lv_ineg E.1 E.2.1 hd (k p e s m args below meth c ad A H locs la E hA hw hx hS hl)
theorem Go.i2l {x : Int32} (hd : decode (mdB M) pc = .ok (.i2l, 1)) (k : Go G l M (pc + 1) ls (vL x.toInt64 :: st) h uc us K) : Go G l M pc ls (vI x :: st) h uc us K := by
  intro p e s m args below meth c ad A H locs la E hA hw hx hS hl
  exact lv_i2l E.1 E.2.1 hd rfl (k p e s m args below meth c ad A H locs la E hA hw hx hS hl)
theorem Go.l2i {x : Int64} (hd : decode (mdB M) pc = .ok (.l2i, 1)) (k : Go G l M (pc + 1) ls (vI x.toInt32 :: st) h uc us K) : Go G l M pc ls (vL x :: st) h uc us K := by
  intro p e s m args below meth c ad A H locs la E hA hw hx hS hl
  exact lv_l2i E.1 E.2.1 hd rfl (k p e s m args below meth c ad A H locs la E hA hw hx hS hl)
theorem Go.lshl {x : Int64} {y : Int32} (hd : decode (mdB M) pc = .ok (.lshl, 1)) (k : Go G l M (pc + 1) ls (vL (x <<< (y.toInt64 &&& 63)) :: st) h uc us K) : Go G l M pc ls (vI y :: vL x :: st) h uc us K := by
  intro p e s m args below meth c ad A H locs la E hA hw hx hS hl
  exact lv_lshl E.1 E.2.1 hd rfl (k p e s m args below meth c ad A H locs la E hA hw hx hS hl)
theorem Go.lcmp {x y : Int64} (hd : decode (mdB M) pc = .ok (.lcmp, 1)) (k : Go G l M (pc + 1) ls (vI (lg_cmp x y) :: st) h uc us K) : Go G l M pc ls (vL y :: vL x :: st) h uc us K := by
  intro p e s m args below meth c ad A H locs la E hA hw hx hS hl
  exact W.lcmp E.1 E.2.1 hd (k p e s m args below meth c ad A H locs la E hA hw hx hS hl)
theorem Go.iconst {n : Int} {v : Int32} (hd : decode (mdB M) pc = .ok (.iconst n, 1)) (hv : Int32.ofInt n = v) (k : Go G l M (pc + 1) ls (vI v :: st) h uc us K) : Go G l M pc ls st h uc us K := by
  intro p e s m args below meth c ad A H locs la E hA hw hx hS hl
  exact lv_iconst E.1 E.2.1 hd hv (k p e s m args below meth c ad A H locs la E hA hw hx hS hl)
theorem Go.bipush {n : Int} {v : Int32} (hd : decode (mdB M) pc = .ok (.bipush n, 2)) (hv : (Int8.ofInt n).toInt32 = v) (k : Go G l M (pc + 2) ls (vI v :: st) h uc us K) : Go G l M pc ls st h uc us K := by
  intro p e s m args below meth c ad A H locs la E hA hw hx hS hl
  exact lv_bipush E.1 E.2.1 hd hv (k p e s m args below meth c ad A H locs la E hA hw hx hS hl)
theorem Go.sipush {n : Int} {v : Int32} (hd : decode (mdB M) pc = .ok (.sipush n, 3)) (hv : (Int16.ofInt n).toInt32 = v) (k : Go G l M (pc + 3) ls (vI v :: st) h uc us K) : Go G l M pc ls st h uc us K := by
  intro p e s m args below meth c ad A H locs la E hA hw hx hS hl
  exact lv_sipush E.1 E.2.1 hd hv (k p e s m args below meth c ad A H locs la E hA hw hx hS hl)
theorem Go.lconst {n : Fin 2} {v : Int64} (hd : decode (mdB M) pc = .ok (.lconst n, 1)) (hv : Int64.ofNat (n : Nat) = v) (k : Go G l M (pc + 1) ls (vL v :: st) h uc us K) : Go G l M pc ls st h uc us K := by
  intro p e s m args below meth c ad A H locs la E hA hw hx hS hl
  exact lv_lconst E.1 E.2.1 hd hv (k p e s m args below meth c ad A H locs la E hA hw hx hS hl)
theorem Go.ldc {i : Nat} {v : Int32} (hd : decode (mdB M) pc = .ok (.ldc i, 2)) (hv : Cond.constant (mdN M).cls i v ∈ lw_ok) (k : Go G l M (pc + 2) ls (vI v :: st) h uc us K) : Go G l M pc ls st h uc us K := by
  intro p e s m args below meth c ad A H locs la E hA hw hx hS hl
  exact lv_ldc E.1 E.2.1 E.2.2.2.2.1 (E.2.2.2.2.2.1 _ hv) hd (k p e s m args below meth c ad A H locs la E hA hw hx hS hl)
theorem Go.ldcw {i : Nat} {v : Int32} (hd : decode (mdB M) pc = .ok (.ldc_w i, 3)) (hv : Cond.constant (mdN M).cls i v ∈ lw_ok) (k : Go G l M (pc + 3) ls (vI v :: st) h uc us K) : Go G l M pc ls st h uc us K := by
  intro p e s m args below meth c ad A H locs la E hA hw hx hS hl
  exact lv_ldcw E.1 E.2.1 E.2.2.2.2.1 (E.2.2.2.2.2.1 _ hv) hd (k p e s m args below meth c ad A H locs la E hA hw hx hS hl)
theorem Go.ldc2 {i : Nat} {v : Int64} (hd : decode (mdB M) pc = .ok (.ldc2_w i, 3)) (hv : Cond.constantLong (mdN M).cls i v ∈ lw_ok) (k : Go G l M (pc + 3) ls (vL v :: st) h uc us K) : Go G l M pc ls st h uc us K := by
  intro p e s m args below meth c ad A H locs la E hA hw hx hS hl
  exact lv_ldc2 E.1 E.2.1 E.2.2.2.2.1 (E.2.2.2.2.2.1 _ hv) hd (k p e s m args below meth c ad A H locs la E hA hw hx hS hl)
theorem Go.goto {off : Int} {t : Nat} (hd : decode (mdB M) pc = .ok (.goto off, 3)) (ht : (pc : Int) + off = (t : Int)) (k : Go G l M t ls st h uc us K) : Go G l M pc ls st h uc us K := by
  intro p e s m args below meth c ad A H locs la E hA hw hx hS hl
  exact lv_goto E.1 E.2.1 hd ht (k p e s m args below meth c ad A H locs la E hA hw hx hS hl)
theorem Go.dup {a : AV} (hd : decode (mdB M) pc = .ok (.dup, 1)) (ha : isL a = false) (k : Go G l M (pc + 1) ls (a :: a :: st) h uc us K) : Go G l M pc ls (a :: st) h uc us K := by
  intro p e s m args below meth c ad A H locs la E hA hw hx hS hl
  exact lv_dup E.1 E.2.1 hd (by rw [cat_cv, ha]; rfl) (k p e s m args below meth c ad A H locs la E hA hw hx hS hl)
theorem Go.pop {a : AV} (hd : decode (mdB M) pc = .ok (.pop, 1)) (ha : isL a = false) (k : Go G l M (pc + 1) ls st h uc us K) : Go G l M pc ls (a :: st) h uc us K := by
  intro p e s m args below meth c ad A H locs la E hA hw hx hS hl
  exact lv_pop E.1 E.2.1 hd (by rw [cat_cv, ha]; rfl) (k p e s m args below meth c ad A H locs la E hA hw hx hS hl)
theorem Go.dup2 {a b : AV} (hd : decode (mdB M) pc = .ok (.dup2, 1)) (ha : isL a = false) (hb : isL b = false) (k : Go G l M (pc + 1) ls (a :: b :: a :: b :: st) h uc us K) : Go G l M pc ls (a :: b :: st) h uc us K := by
  intro p e s m args below meth c ad A H locs la E hA hw hx hS hl
  exact lv_dup2_11 E.1 E.2.1 hd (by rw [cat_cv, ha]; rfl) (by rw [cat_cv, hb]; rfl) (k p e s m args below meth c ad A H locs la E hA hw hx hS hl)
theorem Go.if_eq {x : Int32} {off : Int} {t : Nat} (hd : decode (mdB M) pc = .ok (.ifCond .eq off, 3)) (ht : (pc : Int) + off = (t : Int)) (kt : x = 0 → Go G l M t ls st h uc us K) (kf : ¬ x = 0 → Go G l M (pc + 3) ls st h uc us K) : Go G l M pc ls (vI x :: st) h uc us K := by
  intro p e s m args below meth c ad A H locs la E hA hw hx hS hl
  exact lv_if_eq E.1 E.2.1 hd ht (fun q => kt q p e s m args below meth c ad A H locs la E hA hw hx hS hl) (fun q => kf q p e s m args below meth c ad A H locs la E hA hw hx hS hl)
theorem Go.icmp_eq {x y : Int32} {off : Int} {t : Nat} (hd : decode (mdB M) pc = .ok (.if_icmp .eq off, 3)) (ht : (pc : Int) + off = (t : Int)) (kt : x = y → Go G l M t ls st h uc us K) (kf : ¬ x = y → Go G l M (pc + 3) ls st h uc us K) : Go G l M pc ls (vI y :: vI x :: st) h uc us K := by
  intro p e s m args below meth c ad A H locs la E hA hw hx hS hl
  exact lv_icmp_eq E.1 E.2.1 hd ht (fun q => kt q p e s m args below meth c ad A H locs la E hA hw hx hS hl) (fun q => kf q p e s m args below meth c ad A H locs la E hA hw hx hS hl)
theorem Go.if_ne {x : Int32} {off : Int} {t : Nat} (hd : decode (mdB M) pc = .ok (.ifCond .ne off, 3)) (ht : (pc : Int) + off = (t : Int)) (kt : ¬ x = 0 → Go G l M t ls st h uc us K) (kf : x = 0 → Go G l M (pc + 3) ls st h uc us K) : Go G l M pc ls (vI x :: st) h uc us K := by
  intro p e s m args below meth c ad A H locs la E hA hw hx hS hl
  exact lv_if_ne E.1 E.2.1 hd ht (fun q => kt q p e s m args below meth c ad A H locs la E hA hw hx hS hl) (fun q => kf q p e s m args below meth c ad A H locs la E hA hw hx hS hl)
theorem Go.icmp_ne {x y : Int32} {off : Int} {t : Nat} (hd : decode (mdB M) pc = .ok (.if_icmp .ne off, 3)) (ht : (pc : Int) + off = (t : Int)) (kt : ¬ x = y → Go G l M t ls st h uc us K) (kf : x = y → Go G l M (pc + 3) ls st h uc us K) : Go G l M pc ls (vI y :: vI x :: st) h uc us K := by
  intro p e s m args below meth c ad A H locs la E hA hw hx hS hl
  exact lv_icmp_ne E.1 E.2.1 hd ht (fun q => kt q p e s m args below meth c ad A H locs la E hA hw hx hS hl) (fun q => kf q p e s m args below meth c ad A H locs la E hA hw hx hS hl)
theorem Go.if_lt {x : Int32} {off : Int} {t : Nat} (hd : decode (mdB M) pc = .ok (.ifCond .lt off, 3)) (ht : (pc : Int) + off = (t : Int)) (kt : x < 0 → Go G l M t ls st h uc us K) (kf : ¬ x < 0 → Go G l M (pc + 3) ls st h uc us K) : Go G l M pc ls (vI x :: st) h uc us K := by
  intro p e s m args below meth c ad A H locs la E hA hw hx hS hl
  exact lv_if_lt E.1 E.2.1 hd ht (fun q => kt q p e s m args below meth c ad A H locs la E hA hw hx hS hl) (fun q => kf q p e s m args below meth c ad A H locs la E hA hw hx hS hl)
theorem Go.icmp_lt {x y : Int32} {off : Int} {t : Nat} (hd : decode (mdB M) pc = .ok (.if_icmp .lt off, 3)) (ht : (pc : Int) + off = (t : Int)) (kt : x < y → Go G l M t ls st h uc us K) (kf : ¬ x < y → Go G l M (pc + 3) ls st h uc us K) : Go G l M pc ls (vI y :: vI x :: st) h uc us K := by
  intro p e s m args below meth c ad A H locs la E hA hw hx hS hl
  exact lv_icmp_lt E.1 E.2.1 hd ht (fun q => kt q p e s m args below meth c ad A H locs la E hA hw hx hS hl) (fun q => kf q p e s m args below meth c ad A H locs la E hA hw hx hS hl)
theorem Go.if_ge {x : Int32} {off : Int} {t : Nat} (hd : decode (mdB M) pc = .ok (.ifCond .ge off, 3)) (ht : (pc : Int) + off = (t : Int)) (kt : 0 ≤ x → Go G l M t ls st h uc us K) (kf : ¬ 0 ≤ x → Go G l M (pc + 3) ls st h uc us K) : Go G l M pc ls (vI x :: st) h uc us K := by
  intro p e s m args below meth c ad A H locs la E hA hw hx hS hl
  exact lv_if_ge E.1 E.2.1 hd ht (fun q => kt q p e s m args below meth c ad A H locs la E hA hw hx hS hl) (fun q => kf q p e s m args below meth c ad A H locs la E hA hw hx hS hl)
theorem Go.icmp_ge {x y : Int32} {off : Int} {t : Nat} (hd : decode (mdB M) pc = .ok (.if_icmp .ge off, 3)) (ht : (pc : Int) + off = (t : Int)) (kt : y ≤ x → Go G l M t ls st h uc us K) (kf : ¬ y ≤ x → Go G l M (pc + 3) ls st h uc us K) : Go G l M pc ls (vI y :: vI x :: st) h uc us K := by
  intro p e s m args below meth c ad A H locs la E hA hw hx hS hl
  exact lv_icmp_ge E.1 E.2.1 hd ht (fun q => kt q p e s m args below meth c ad A H locs la E hA hw hx hS hl) (fun q => kf q p e s m args below meth c ad A H locs la E hA hw hx hS hl)
theorem Go.if_gt {x : Int32} {off : Int} {t : Nat} (hd : decode (mdB M) pc = .ok (.ifCond .gt off, 3)) (ht : (pc : Int) + off = (t : Int)) (kt : 0 < x → Go G l M t ls st h uc us K) (kf : ¬ 0 < x → Go G l M (pc + 3) ls st h uc us K) : Go G l M pc ls (vI x :: st) h uc us K := by
  intro p e s m args below meth c ad A H locs la E hA hw hx hS hl
  exact lv_if_gt E.1 E.2.1 hd ht (fun q => kt q p e s m args below meth c ad A H locs la E hA hw hx hS hl) (fun q => kf q p e s m args below meth c ad A H locs la E hA hw hx hS hl)
theorem Go.icmp_gt {x y : Int32} {off : Int} {t : Nat} (hd : decode (mdB M) pc = .ok (.if_icmp .gt off, 3)) (ht : (pc : Int) + off = (t : Int)) (kt : y < x → Go G l M t ls st h uc us K) (kf : ¬ y < x → Go G l M (pc + 3) ls st h uc us K) : Go G l M pc ls (vI y :: vI x :: st) h uc us K := by
  intro p e s m args below meth c ad A H locs la E hA hw hx hS hl
  exact lv_icmp_gt E.1 E.2.1 hd ht (fun q => kt q p e s m args below meth c ad A H locs la E hA hw hx hS hl) (fun q => kf q p e s m args below meth c ad A H locs la E hA hw hx hS hl)
theorem Go.if_le {x : Int32} {off : Int} {t : Nat} (hd : decode (mdB M) pc = .ok (.ifCond .le off, 3)) (ht : (pc : Int) + off = (t : Int)) (kt : x ≤ 0 → Go G l M t ls st h uc us K) (kf : ¬ x ≤ 0 → Go G l M (pc + 3) ls st h uc us K) : Go G l M pc ls (vI x :: st) h uc us K := by
  intro p e s m args below meth c ad A H locs la E hA hw hx hS hl
  exact lv_if_le E.1 E.2.1 hd ht (fun q => kt q p e s m args below meth c ad A H locs la E hA hw hx hS hl) (fun q => kf q p e s m args below meth c ad A H locs la E hA hw hx hS hl)
theorem Go.icmp_le {x y : Int32} {off : Int} {t : Nat} (hd : decode (mdB M) pc = .ok (.if_icmp .le off, 3)) (ht : (pc : Int) + off = (t : Int)) (kt : x ≤ y → Go G l M t ls st h uc us K) (kf : ¬ x ≤ y → Go G l M (pc + 3) ls st h uc us K) : Go G l M pc ls (vI y :: vI x :: st) h uc us K := by
  intro p e s m args below meth c ad A H locs la E hA hw hx hS hl
  exact lv_icmp_le E.1 E.2.1 hd ht (fun q => kt q p e s m args below meth c ad A H locs la E hA hw hx hS hl) (fun q => kf q p e s m args below meth c ad A H locs la E hA hw hx hS hl)
theorem Go.iload {i : Nat} {x : Int32} (hd : decode (mdB M) pc = .ok (.iload i, 2)) (hi : ls[i]? = some (some (vI x))) (k : Go G l M (pc + 2) ls (vI x :: st) h uc us K) : Go G l M pc ls st h uc us K := by
  intro p e s m args below meth c ad A H locs la E hA hw hx hS hl
  exact lv_iload E.1 E.2.1 hd (hl.2.2 _ _ hi) (k p e s m args below meth c ad A H locs la E hA hw hx hS hl)
theorem Go.iload_n {n : Fin 4} {x : Int32} (hd : decode (mdB M) pc = .ok (.iload_n n, 1)) (hi : ls[(n : Nat)]? = some (some (vI x))) (k : Go G l M (pc + 1) ls (vI x :: st) h uc us K) : Go G l M pc ls st h uc us K := by
  intro p e s m args below meth c ad A H locs la E hA hw hx hS hl
  exact lv_iload_n E.1 E.2.1 hd rfl (hl.2.2 _ _ hi) (k p e s m args below meth c ad A H locs la E hA hw hx hS hl)
theorem Go.lload {i : Nat} {x : Int64} (hd : decode (mdB M) pc = .ok (.lload i, 2)) (hi : ls[i]? = some (some (vL x))) (k : Go G l M (pc + 2) ls (vL x :: st) h uc us K) : Go G l M pc ls st h uc us K := by
  intro p e s m args below meth c ad A H locs la E hA hw hx hS hl
  exact lv_lload E.1 E.2.1 hd (hl.2.2 _ _ hi) (k p e s m args below meth c ad A H locs la E hA hw hx hS hl)
theorem Go.lload_n {n : Fin 4} {x : Int64} (hd : decode (mdB M) pc = .ok (.lload_n n, 1)) (hi : ls[(n : Nat)]? = some (some (vL x))) (k : Go G l M (pc + 1) ls (vL x :: st) h uc us K) : Go G l M pc ls st h uc us K := by
  intro p e s m args below meth c ad A H locs la E hA hw hx hS hl
  exact lv_lload_n E.1 E.2.1 hd rfl (hl.2.2 _ _ hi) (k p e s m args below meth c ad A H locs la E hA hw hx hS hl)
theorem Go.aload {i x : Nat} (hdg : decode (mdB M) pc = .ok (.aload i, 2)) (hi : ls[i]? = some (some (vR x))) (k : Go G l M (pc + 2) ls (vR x :: st) h uc us K) : Go G l M pc ls st h uc us K := by
  intro p e s m args below meth c ad A H locs la E hA hw hx hS hl
  have hr := hl.2.2 _ _ hi
  have kk := k p e s m args below meth c ad A H locs la E hA hw hx hS hl
  by_cases e0 : x = 0
  · subst e0
    exact lv_aloadN E.1 E.2.1 hdg hr kk
  · simp only [List.map_cons, cv_ref (show 0 < x by omega)] at hr kk
    exact lv_aload E.1 E.2.1 hdg hr kk
theorem Go.aload_n {n : Fin 4} {x : Nat} (hdg : decode (mdB M) pc = .ok (.aload_n n, 1)) (hi : ls[(n : Nat)]? = some (some (vR x))) (k : Go G l M (pc + 1) ls (vR x :: st) h uc us K) : Go G l M pc ls st h uc us K := by
  intro p e s m args below meth c ad A H locs la E hA hw hx hS hl
  have hr := hl.2.2 _ _ hi
  have kk := k p e s m args below meth c ad A H locs la E hA hw hx hS hl
  by_cases e0 : x = 0
  · subst e0
    exact lv_aload_nN E.1 E.2.1 hdg rfl hr kk
  · simp only [List.map_cons, cv_ref (show 0 < x by omega)] at hr kk
    exact lv_aload_n E.1 E.2.1 hdg rfl hr kk
theorem Go.istore {i : Nat} {x : Int32} (hd : decode (mdB M) pc = .ok (.istore i, 2)) (hn : i < mdL M) (k : Go G l M (pc + 2) (sto ls i (vI x)) st h uc us K) : Go G l M pc ls (vI x :: st) h uc us K := by
  intro p e s m args below meth c ad A H locs la E hA hw hx hS hl
  exact lv_istore E.1 E.2.1 hd hl.has hn rfl (fun la2 h2 => k p e s m args below meth c ad A H locs la2 E hA hw hx hS (LV.sto1 rfl h2))
theorem Go.istore_n {n : Fin 4} {i : Nat} {x : Int32} (hd : decode (mdB M) pc = .ok (.istore_n n, 1)) (hi : (n : Nat) = i) (hn : i < mdL M) (k : Go G l M (pc + 1) (sto ls i (vI x)) st h uc us K) : Go G l M pc ls (vI x :: st) h uc us K := by
  intro p e s m args below meth c ad A H locs la E hA hw hx hS hl
  exact lv_istore_n E.1 E.2.1 hd hi hl.has hn rfl (fun la2 h2 => k p e s m args below meth c ad A H locs la2 E hA hw hx hS (LV.sto1 rfl h2))
theorem Go.lstore {i : Nat} {x : Int64} (hd : decode (mdB M) pc = .ok (.lstore i, 2)) (hn : i + 1 < mdL M) (k : Go G l M (pc + 2) (sto ls i (vL x)) st h uc us K) : Go G l M pc ls (vL x :: st) h uc us K := by
  intro p e s m args below meth c ad A H locs la E hA hw hx hS hl
  exact lv_lstore E.1 E.2.1 hd hl.has hn rfl (fun la2 h2 => k p e s m args below meth c ad A H locs la2 E hA hw hx hS (LV.sto2 rfl h2))
theorem Go.lstore_n {n : Fin 4} {i : Nat} {x : Int64} (hd : decode (mdB M) pc = .ok (.lstore_n n, 1)) (hi : (n : Nat) = i) (hn : i + 1 < mdL M) (k : Go G l M (pc + 1) (sto ls i (vL x)) st h uc us K) : Go G l M pc ls (vL x :: st) h uc us K := by
  intro p e s m args below meth c ad A H locs la E hA hw hx hS hl
  exact lv_lstore_n E.1 E.2.1 hd hi hl.has hn rfl (fun la2 h2 => k p e s m args below meth c ad A H locs la2 E hA hw hx hS (LV.sto2 rfl h2))
theorem Go.astore {i x : Nat} (hdg : decode (mdB M) pc = .ok (.astore i, 2)) (hn : i < mdL M) (k : Go G l M (pc + 2) (sto ls i (vR x)) st h uc us K) : Go G l M pc ls (vR x :: st) h uc us K := by
  intro p e s m args below meth c ad A H locs la E hA hw hx hS hl
  by_cases e0 : x = 0
  · subst e0
    exact lv_astoreN E.1 E.2.1 hdg hl.has hn rfl (fun la2 h2 => k p e s m args below meth c ad A H locs la2 E hA hw hx hS (LV.sto1 rfl h2))
  · simp only [List.map_cons, cv_ref (show 0 < x by omega)]
    exact lv_astore E.1 E.2.1 hdg hl.has hn rfl (fun la2 h2 => k p e s m args below meth c ad A H locs la2 E hA hw hx hS (LV.sto1 rfl (by rw [cv_ref (show 0 < x by omega)]; exact h2)))
theorem Go.astore_n {n : Fin 4} {i x : Nat} (hdg : decode (mdB M) pc = .ok (.astore_n n, 1)) (hi : (n : Nat) = i) (hn : i < mdL M) (k : Go G l M (pc + 1) (sto ls i (vR x)) st h uc us K) : Go G l M pc ls (vR x :: st) h uc us K := by
  intro p e s m args below meth c ad A H locs la E hA hw hx hS hl
  by_cases e0 : x = 0
  · subst e0
    exact lv_astore_nN E.1 E.2.1 hdg hi hl.has hn rfl (fun la2 h2 => k p e s m args below meth c ad A H locs la2 E hA hw hx hS (LV.sto1 rfl h2))
  · simp only [List.map_cons, cv_ref (show 0 < x by omega)]
    exact lv_astore_n E.1 E.2.1 hdg hi hl.has hn rfl (fun la2 h2 => k p e s m args below meth c ad A H locs la2 E hA hw hx hS (LV.sto1 rfl (by rw [cv_ref (show 0 < x by omega)]; exact h2)))
theorem Go.iinc {i : Nat} {n : Int} {x v : Int32} (hd : decode (mdB M) pc = .ok (.iinc i n, 3)) (hi : ls[i]? = some (some (vI x))) (hv : x + Int32.ofInt n = v) (hn : i < mdL M) (k : Go G l M (pc + 3) (sto ls i (vI v)) st h uc us K) : Go G l M pc ls st h uc us K := by
  intro p e s m args below meth c ad A H locs la E hA hw hx hS hl
  obtain ⟨j, hj⟩ := List.getElem?_of_mem (lvl_mem (ad := ad) hi)
  exact lv_iinc E.1 E.2.1 hd hl.has hj hv hn rfl (fun la2 h2 => k p e s m args below meth c ad A H locs la2 E hA hw hx hS (LV.sto1 rfl h2))
end GoRows
end
section
/-! ===== the heap's rows ===== -/
theorem up2_same {α : Type} (f : Nat → Nat → α) (k j : Nat) (v : α) : up2 f k j v k j = v := by simp [up2]
theorem wl_upd {G : GP} {ad : Nat → Nat} {h h' : AH} {k : Nat} (hn : hN h' = hN h) (h0 : 0 < k) (h1 : k ≤ hN h) (ho : ∀ k', k' ≠ k → ent G ad h' k' = ent G ad h k') : (wl G ad h).set (k - 1) (ad k, ent G ad h' k) = wl G ad h' := by
  apply List.ext_getElem?
  intro i
  rw [wl_get, List.getElem?_set, wl_len, wl_get]
  by_cases hi : k - 1 = i
  · subst hi
    have e : k - 1 + 1 = k := by omega
    rw [if_pos rfl, if_pos (by omega), if_pos (by omega), e]
  · rw [if_neg hi, hn]
    by_cases hl : i < hN h
    · rw [if_pos hl, if_pos hl, ho (i + 1) (by omega)]
    · rw [if_neg hl, if_neg hl]
/-- a world with one cell changed -/
theorem Wd.upd {G : GP} {ad : Nat → Nat} {h h' : AH} {A : Nat → Prop} {s : State} {H H1 : Heap} {k : Nat} (hw : Wd G ad h A s H) (hn : hN h' = hN h) (h0 : 0 < k) (h1 : k ≤ hN h) (ho : ∀ k', k' ≠ k → ent G ad h' k' = ent G ad h k') {e : va_E} (he : ent G ad h' k = e) (hrf : RF h')
    (hP : va_P (gD G) vwCl ((wl G ad h).set (k - 1) (ad k, e)) H1) (hD : va_D A ((wl G ad h).set (k - 1) (ad k, e))) : Wd G ad h' A s H1 := by
  subst he
  rw [wl_upd hn h0 h1 ho] at hP hD
  exact ⟨hP, hw.2.1, hD, by rw [hn]; exact hw.2.2.2.1, hw.2.2.2.2.1, hrf⟩
theorem Wd.ob {G : GP} {ad : Nat → Nat} {h : AH} {A : Nat → Prop} {s : State} {H : Heap} {k ci : Nat} (ho : Ob h k ci) : (wl G ad h)[k - 1]? = some (ad k, .inr (ci, (List.range (nfl ci)).map (fvl ad h k ci))) := by
  rw [wl_at G ad h ho.1 ho.2.1]
  simp [ent, ho.2.2]
theorem Wd.ar {G : GP} {ad : Nat → Nat} {h : AH} {k t n : Nat} (ho : Ar h k t n) : (wl G ad h)[k - 1]? = some (ad k, .inl (gA G t, n, if t = 1 then .inr (.inl (hL h k)) else if t < 3 then .inl (hI h k) else .inr (.inr (.inr (.inr (fun j => hd ad (hR h k j))))))) := by
  rw [wl_at G ad h ho.1 ho.2.1]
  simp [ent, ho.2.2]
/-- what a class' rows of the tables say, checked by program -/
def CO (ci : Nat) : Prop := ∀ q : vw_C, vwCl[ci]? = some q → (∀ w ∈ u_ws q.1 q.2.1 q.2.2, w ∈ lw_ok) ∧ (∀ k, k < q.2.2 → parseFieldDescriptor (q.2.1 k).2.2.1 = some ((parseFieldDescriptor (q.2.1 k).2.2.1).getD .int)) ∧ (∀ a, a < q.2.2 → ∀ b, b < q.2.2 → a ≠ b → (q.2.1 a).2.1 ≠ (q.2.1 b).2.1)
theorem CO.of {ci : Nat} {C : String} {T : u_T} {N : Nat} {ty : Nat → FieldType} (hc : vwCl[ci]? = some (C, T, N)) (h1 : ∀ w ∈ u_ws C T N, w ∈ lw_ok) (h2 : ∀ k, k < N → parseFieldDescriptor (T k).2.2.1 = some (ty k)) (h3 : ∀ a, a < N → ∀ b, b < N → a ≠ b → (T a).2.1 ≠ (T b).2.1) : CO ci := by
  intro q hq
  rw [hc] at hq
  cases hq
  exact ⟨h1, fun k hk => by rw [h2 k hk]; rfl, h3⟩
theorem inT (C : String) (T : u_T) (N : Nat) (h : (u_ws C T N).all (fun w => decide (w ∈ lw_tbl) && goodWord w) = true) : ∀ w ∈ u_ws C T N, w ∈ lw_ok := fun w hw => by
  have h1 := List.all_eq_true.mp h w hw
  simp only [Bool.and_eq_true, decide_eq_true_eq] at h1
  exact lw_ok_in h1.1 h1.2
theorem co0 : CO 0 := CO.of rfl (inT _ _ _ (by decide +kernel)) tyX0_ok nmX0
theorem co1 : CO 1 := CO.of rfl (inT _ _ _ (by decide +kernel)) tyX1_ok nmX1
theorem co2 : CO 2 := CO.of rfl (inT _ _ _ (by decide +kernel)) tyX2_ok nmX2
theorem co3 : CO 3 := CO.of rfl (inT _ _ _ (by decide +kernel)) tyX3_ok nmX3
theorem co4 : CO 4 := CO.of rfl (inT _ _ _ (by decide +kernel)) tyX4_ok nmX4
theorem co5 : CO 5 := CO.of rfl (inT _ _ _ (by decide +kernel)) tyX5_ok nmX5
theorem co6 : CO 6 := CO.of rfl (inT _ _ _ (by decide +kernel)) tyX6_ok nmX6
theorem co7 : CO 7 := CO.of rfl (inT _ _ _ (by decide +kernel)) tyX7_ok nmX7
theorem co8 : CO 8 := CO.of rfl (inT _ _ _ (by decide +kernel)) tyX8_ok nmX8
theorem co9 : CO 9 := CO.of rfl (inT _ _ _ (by decide +kernel)) tyX9_ok nmX9
theorem co10 : CO 10 := CO.of rfl (inT _ _ _ (by decide +kernel)) tyX10_ok nmX10
theorem coAll (ci : Nat) : CO ci := by
  match ci with
  | 0 => exact co0
  | 1 => exact co1
  | 2 => exact co2
  | 3 => exact co3
  | 4 => exact co4
  | 5 => exact co5
  | 6 => exact co6
  | 7 => exact co7
  | 8 => exact co8
  | 9 => exact co9
  | 10 => exact co10
  | n + 11 => intro q hq; simp [vwCl] at hq
theorem nfl_of {ci : Nat} {q : vw_C} (h : vwCl[ci]? = some q) : nfl ci = q.2.2 := by simp [nfl, h]
theorem fs_get {ad : Nat → Nat} {h : AH} {k ci j : Nat} (hj : j < nfl ci) : ((List.range (nfl ci)).map (fvl ad h k ci))[j]? = some (fvl ad h k ci j) := by
  simp [List.getElem?_map, List.getElem?_range hj]
theorem ent_setI {G : GP} {ad : Nat → Nat} {h : AH} {k j k' : Nat} {v : Int32} (hk : k' ≠ k) : ent G ad (setI h k j v) k' = ent G ad h k' := by
  have e : hI (setI h k j v) k' = hI h k' := by funext z; simp [hI, setI, up2, hk]
  unfold ent fvl
  simp only [e]
  rfl
theorem ent_setL {G : GP} {ad : Nat → Nat} {h : AH} {k j k' : Nat} {v : Int64} (hk : k' ≠ k) : ent G ad (setL h k j v) k' = ent G ad h k' := by
  have e : hL (setL h k j v) k' = hL h k' := by funext z; simp [hL, setL, up2, hk]
  unfold ent fvl
  simp only [e]
  rfl
theorem ent_setR {G : GP} {ad : Nat → Nat} {h : AH} {k j k' v : Nat} (hk : k' ≠ k) : ent G ad (setR h k j v) k' = ent G ad h k' := by
  have e : hR (setR h k j v) k' = hR h k' := by funext z; simp [hR, setR, up2, hk]
  unfold ent fvl
  simp only [e]
  rfl
theorem map_set {α : Type} {n j : Nat} {f g : Nat → α} (hj : j < n) (ho : ∀ i, i ≠ j → g i = f i) : (List.range n).map g = ((List.range n).map f).set j (g j) := by
  apply List.ext_getElem?
  intro i
  rw [List.getElem?_set]
  by_cases hi : j = i
  · subst hi
    simp [hj]
  · rw [if_neg hi]
    by_cases hl : i < n
    · simp [List.getElem?_map, List.getElem?_range hl, ho i (fun q => hi q.symm)]
    · rw [List.getElem?_eq_none (by simp; omega), List.getElem?_eq_none (by simp; omega)]
theorem fv_setI {ad : Nat → Nat} {h : AH} {k ci j : Nat} {v : Int32} (h1 : kd ci j ≠ 1) (h2 : kd ci j ≠ 2) (hj : j < nfl ci) : (List.range (nfl ci)).map (fvl ad (setI h k j v) k ci) = ((List.range (nfl ci)).map (fvl ad h k ci)).set j (.int v) := by
  rw [map_set (f := fvl ad h k ci) hj]
  · have : fvl ad (setI h k j v) k ci j = .int v := by simp [fvl, h1, h2, hI, setI, up2]
    rw [this]
  · intro i hi
    have e : hI (setI h k j v) k i = hI h k i := by simp [hI, setI, up2, hi]
    unfold fvl
    rw [e]
    rfl
theorem fv_setL {ad : Nat → Nat} {h : AH} {k ci j : Nat} {v : Int64} (h1 : kd ci j = 1) (hj : j < nfl ci) : (List.range (nfl ci)).map (fvl ad (setL h k j v) k ci) = ((List.range (nfl ci)).map (fvl ad h k ci)).set j (.long v) := by
  rw [map_set (f := fvl ad h k ci) hj]
  · have : fvl ad (setL h k j v) k ci j = .long v := by simp [fvl, h1, hL, setL, up2]
    rw [this]
  · intro i hi
    have e : hL (setL h k j v) k i = hL h k i := by simp [hL, setL, up2, hi]
    unfold fvl
    rw [e]
    rfl
theorem fv_setR {ad : Nat → Nat} {h : AH} {k ci j v : Nat} (h1 : kd ci j = 2) (hj : j < nfl ci) : (List.range (nfl ci)).map (fvl ad (setR h k j v) k ci) = ((List.range (nfl ci)).map (fvl ad h k ci)).set j (va_rf (hd ad v)) := by
  rw [map_set (f := fvl ad h k ci) hj]
  · have : fvl ad (setR h k j v) k ci j = va_rf (hd ad v) := by simp [fvl, h1, hR, setR, up2]
    rw [this]
  · intro i hi
    have e : hR (setR h k j v) k i = hR h k i := by simp [hR, setR, up2, hi]
    unfold fvl
    rw [e]
    rfl
end
section
/-! ===== fields, rows, answers ===== -/
def fav (h : AH) (k ci j : Nat) : AV := if kd ci j = 1 then vL (hL h k j) else if kd ci j = 2 then vR (hR h k j) else vI (hI h k j)
theorem cv_fav (ad : Nat → Nat) (h : AH) (k ci j : Nat) : cv ad (fav h k ci j) = fvl ad h k ci j := by
  unfold fav fvl
  by_cases h1 : kd ci j = 1
  · simp [h1, cv]
  · by_cases h2 : kd ci j = 2
    · simp [h2, cv]
    · simp [h1, h2, cv]
theorem vp_boo {x : Int32} (h : x = 0 ∨ x = 1) : vp_nar .boolean x = x := by rcases h with rfl | rfl <;> decide
theorem RF.setR {h : AH} {k j x : Nat} (hr : RF h) (hx : x ≤ hN h) : RF (setR h k j x) := by
  intro k' j' hk
  show up2 (hR h) k j x k' j' ≤ hN h
  unfold up2
  by_cases z : k' = k ∧ j' = j
  · rw [if_pos z]; exact hx
  · rw [if_neg z]; exact hr k' j' hk
section HeapRows
variable {G : GP} {l : Launch} {M : MD} {pc : Nat} {ls : List (Option AV)} {st : List AV} {h : AH} {uc us : Nat} {K : Option AV → AH → Prop}
theorem Go.getf {i k ci j : Nat} {q : vw_C} (hdg : decode (mdB M) pc = .ok (.getfield i, 3)) (hq : vwCl[ci]? = some q) (hj : j < q.2.2) (hlk : Cond.fieldLink (mdN M).cls i (q.2.1 j).1 (q.2.1 j).2.1 (q.2.1 j).2.2.1 ∈ lw_ok) (ho : Ob h k ci) (kk : Go G l M (pc + 3) ls (fav h k ci j :: st) h uc us K) : Go G l M pc ls (vR k :: st) h uc us K := by
  intro p e s m args below meth c ad A H locs la E hA hw hx hS hl
  simp only [List.map_cons, cv_ref ho.1]
  obtain ⟨C, T, N⟩ := q
  have k1 := kk p e s m args below meth c ad A H locs la E hA hw hx hS hl
  simp only [List.map_cons, cv_fav] at k1
  exact va_get (C := C) (T := T) (N := N) (ci := ci) (ref := (T j).1) E.1 E.2.1 E.2.2.2.2.2.1 (coAll ci _ hq).1 E.2.2.2.2.1 hw.2.1 hw.1 (k - 1) (Wd.ob (A := A) (s := s) (H := H) ho) hq j hj (E.2.2.2.2.2.1 _ hlk) (fun _ z => z) (fs_get (by rw [nfl_of hq]; exact hj)) hdg k1
/-- a store to a field: to one that is final in a constructor alone -/
theorem Go.putf {i k ci j : Nat} {q : vw_C} {a : AV} {h' : AH} (hdg : decode (mdB M) pc = .ok (.putfield i, 3)) (hq : vwCl[ci]? = some q) (hj : j < q.2.2) (hlk : Cond.fieldLink (mdN M).cls i (q.2.1 j).1 (q.2.1 j).2.1 (q.2.1 j).2.2.1 ∈ lw_ok) (hfin : (q.2.1 j).2.2.2 = false ∨ ((q.2.1 j).2.2.2 = true ∧ (mdN M).name = "<init>" ∧ (q.2.1 j).1 = (mdN M).cls)) (ho : Ob h k ci)
    (hn : ∀ ad ty, parseFieldDescriptor (q.2.1 j).2.2.1 = some ty → narrow ty (cv ad a) = cv ad a ∧ fits ty (cv ad a) = true) (hN' : hN h' = hN h) (hrf : RF h → RF h') (he : ∀ G ad k', k' ≠ k → ent G ad h' k' = ent G ad h k') (hs : hS h' k = hS h k) (hf : ∀ ad, (List.range (nfl ci)).map (fvl ad h' k ci) = ((List.range (nfl ci)).map (fvl ad h k ci)).set j (cv ad a))
    (kk : Go G l M (pc + 3) ls st h' uc us K) : Go G l M pc ls (a :: vR k :: st) h uc us K := by
  intro p e s m args below meth c ad A H locs la E hA hw hx hS hl
  simp only [List.map_cons, cv_ref ho.1]
  obtain ⟨C, T, N⟩ := q
  have hty := (coAll ci _ hq).2.1 j hj
  obtain ⟨n1, n2⟩ := hn ad _ hty
  have hent : ent G ad h' k = .inr (ci, ((List.range (nfl ci)).map (fvl ad h k ci)).set j (cv ad a)) := by
    rw [← hf ad]
    simp [ent, hs, ho.2.2]
  have k1 : ∀ (H1 : Heap) (locs1 : List Loc), va_P (gD G) vwCl ((wl G ad h).set (k - 1) (ad k, .inr (ci, ((List.range (nfl ci)).map (fvl ad h k ci)).set j (cv ad a)))) H1 → va_D A ((wl G ad h).set (k - 1) (ad k, .inr (ci, ((List.range (nfl ci)).map (fvl ad h k ci)).set j (cv ad a)))) → va_S A s.heap H1 locs1 → W p l e (mdR M) s m args below meth c H1 locs1 uc us (MQ below (Qs G ((mdR M).cells - uc) ad h A K) args s (mdR M).cells (mdR M).slots A) (F0 m (pc + 3) la (st.map (cv ad))) := by
    intro H1 locs1 hP1 hD1 hS1
    have := kk p e s m args below meth c ad A H1 locs1 la E hA (hw.upd hN' ho.1 ho.2.1 (fun k' z => he G ad k' z) hent (hrf hw.2.2.2.2.2) hP1 hD1) hx hS1 hl
    unfold Qs at this ⊢
    rw [hN'] at this
    exact this
  rcases hfin with hfin | ⟨hfin, hin, hdc⟩
  · exact va_put (C := C) (T := T) (N := N) (ci := ci) (ref := (T j).1) E.1 E.2.1 E.2.2.2.2.2.1 (coAll ci _ hq).1 _ (coAll ci _ hq).2.1 (coAll ci _ hq).2.2 E.2.2.2.2.1 hw.2.1 hw.1 hw.2.2.1 hS (k - 1) (Wd.ob (A := A) (s := s) (H := H) ho) hq j hj (E.2.2.2.2.2.1 _ hlk) (fun _ z => z) hfin hty n1 n2 (by simp; rw [nfl_of hq]; exact hj) hdg k1
  · exact va_putF (C := C) (T := T) (N := N) (ci := ci) (ref := (T j).1) E.1 E.2.1 E.2.2.2.2.2.1 (coAll ci _ hq).1 _ (coAll ci _ hq).2.1 (coAll ci _ hq).2.2 E.2.2.2.2.1 hw.2.1 hw.1 hw.2.2.1 hS (k - 1) (Wd.ob (A := A) (s := s) (H := H) ho) hq j hj (E.2.2.2.2.2.1 _ hlk) (fun _ z => z) hfin (E.2.2.2.2.2.2.2.trans hin) hdc hty n1 n2 (by simp; rw [nfl_of hq]; exact hj) hdg k1
theorem fk_int {d : String} (h : fk d = 0) : d = "I" := by
  unfold fk at h
  by_cases h0 : d = "I"
  · exact h0
  · by_cases h1 : d = "J"
    · simp [h1] at h
    · by_cases h2 : d = "Z" <;> simp [h0, h1, h2] at h
theorem fk_boo {d : String} (h : fk d = 3) : d = "Z" := by
  unfold fk at h
  by_cases h0 : d = "I"
  · simp [h0] at h
  · by_cases h1 : d = "J"
    · simp [h1] at h
    · by_cases h2 : d = "Z"
      · exact h2
      · simp [h0, h1, h2] at h
theorem fk_long {d : String} (h : fk d = 1) : d = "J" := by
  unfold fk at h
  by_cases h0 : d = "I"
  · simp [h0] at h
  · by_cases h1 : d = "J"
    · exact h1
    · by_cases h2 : d = "Z" <;> simp [h0, h1, h2] at h
theorem kd_of {ci j : Nat} {q : vw_C} (h : vwCl[ci]? = some q) : kd ci j = fk (q.2.1 j).2.2.1 := by simp [kd, h]
theorem Go.putI {i k ci j : Nat} {q : vw_C} {x : Int32} (hdg : decode (mdB M) pc = .ok (.putfield i, 3)) (hq : vwCl[ci]? = some q) (hj : j < q.2.2) (hk : kd ci j = 0) (hlk : Cond.fieldLink (mdN M).cls i (q.2.1 j).1 (q.2.1 j).2.1 (q.2.1 j).2.2.1 ∈ lw_ok) (hfin : (q.2.1 j).2.2.2 = false ∨ ((q.2.1 j).2.2.2 = true ∧ (mdN M).name = "<init>" ∧ (q.2.1 j).1 = (mdN M).cls)) (ho : Ob h k ci) (kk : Go G l M (pc + 3) ls st (setI h k j x) uc us K) : Go G l M pc ls (vI x :: vR k :: st) h uc us K := by
  refine Go.putf (h' := setI h k j x) hdg hq hj hlk hfin ho (fun ad ty hty => ?_) rfl (fun z => z) (fun G ad k' hk' => ent_setI hk') rfl (fun ad => fv_setI (by omega) (by omega) (by rw [nfl_of hq]; exact hj)) kk
  rw [kd_of hq] at hk
  rw [fk_int hk] at hty
  have : ty = .int := Option.some.inj (hty.symm.trans (by decide))
  subst this
  exact ⟨rfl, rfl⟩
theorem Go.putZ {i k ci j : Nat} {q : vw_C} {x : Int32} (hdg : decode (mdB M) pc = .ok (.putfield i, 3)) (hq : vwCl[ci]? = some q) (hj : j < q.2.2) (hk : kd ci j = 3) (hx01 : x = 0 ∨ x = 1) (hlk : Cond.fieldLink (mdN M).cls i (q.2.1 j).1 (q.2.1 j).2.1 (q.2.1 j).2.2.1 ∈ lw_ok) (hfin : (q.2.1 j).2.2.2 = false ∨ ((q.2.1 j).2.2.2 = true ∧ (mdN M).name = "<init>" ∧ (q.2.1 j).1 = (mdN M).cls)) (ho : Ob h k ci) (kk : Go G l M (pc + 3) ls st (setI h k j x) uc us K) : Go G l M pc ls (vI x :: vR k :: st) h uc us K := by
  refine Go.putf (h' := setI h k j x) hdg hq hj hlk hfin ho (fun ad ty hty => ?_) rfl (fun z => z) (fun G ad k' hk' => ent_setI hk') rfl (fun ad => fv_setI (by omega) (by omega) (by rw [nfl_of hq]; exact hj)) kk
  rw [kd_of hq] at hk
  rw [fk_boo hk] at hty
  have : ty = .boolean := Option.some.inj (hty.symm.trans (by decide))
  subst this
  rcases hx01 with rfl | rfl
  · exact ⟨rfl, rfl⟩
  · exact ⟨rfl, rfl⟩
theorem Go.putL {i k ci j : Nat} {q : vw_C} {x : Int64} (hdg : decode (mdB M) pc = .ok (.putfield i, 3)) (hq : vwCl[ci]? = some q) (hj : j < q.2.2) (hk : kd ci j = 1) (hlk : Cond.fieldLink (mdN M).cls i (q.2.1 j).1 (q.2.1 j).2.1 (q.2.1 j).2.2.1 ∈ lw_ok) (hfin : (q.2.1 j).2.2.2 = false ∨ ((q.2.1 j).2.2.2 = true ∧ (mdN M).name = "<init>" ∧ (q.2.1 j).1 = (mdN M).cls)) (ho : Ob h k ci) (kk : Go G l M (pc + 3) ls st (setL h k j x) uc us K) : Go G l M pc ls (vL x :: vR k :: st) h uc us K := by
  refine Go.putf (h' := setL h k j x) hdg hq hj hlk hfin ho (fun ad ty hty => ?_) rfl (fun z => z) (fun G ad k' hk' => ent_setL hk') rfl (fun ad => fv_setL hk (by rw [nfl_of hq]; exact hj)) kk
  rw [kd_of hq] at hk
  rw [fk_long hk] at hty
  have : ty = .long := Option.some.inj (hty.symm.trans (by decide))
  subst this
  exact ⟨rfl, rfl⟩
theorem Go.putR {i k ci j x : Nat} {q : vw_C} (hdg : decode (mdB M) pc = .ok (.putfield i, 3)) (hq : vwCl[ci]? = some q) (hj : j < q.2.2) (hk : kd ci j = 2) (hr : rfT (q.2.1 j).2.2.1 = true) (h0 : 0 < x) (hxn : x ≤ hN h) (hlk : Cond.fieldLink (mdN M).cls i (q.2.1 j).1 (q.2.1 j).2.1 (q.2.1 j).2.2.1 ∈ lw_ok) (hfin : (q.2.1 j).2.2.2 = false ∨ ((q.2.1 j).2.2.2 = true ∧ (mdN M).name = "<init>" ∧ (q.2.1 j).1 = (mdN M).cls)) (ho : Ob h k ci) (kk : Go G l M (pc + 3) ls st (setR h k j x) uc us K) : Go G l M pc ls (vR x :: vR k :: st) h uc us K := by
  refine Go.putf (h' := setR h k j x) hdg hq hj hlk hfin ho (fun ad ty hty => ?_) rfl (fun z => z.setR hxn) (fun G ad k' hk' => ent_setR hk') rfl (fun ad => fv_setR hk (by rw [nfl_of hq]; exact hj)) kk
  rw [cv_ref h0]
  unfold rfT at hr
  rw [hty] at hr
  cases ty with
  | object C => exact ⟨rfl, rfl⟩
  | array t => exact ⟨rfl, rfl⟩
  | _ => simp at hr
end HeapRows
end
section
/-! ===== rows of numbers and references, answers ===== -/
theorem gT_at (G : GP) : (gT G)[0]? = some (gA G 0, .int) ∧ (gT G)[1]? = some (gA G 1, .long) ∧ (gT G)[2]? = some (gA G 2, .boolean) ∧ (gT G)[3]? = some (gA G 3, .object "SettledDots$Scene") ∧ (gT G)[4]? = some (gA G 4, .object "SettledDots$Box") := ⟨rfl, rfl, rfl, rfl, rfl⟩
theorem ent_ar {G : GP} {ad : Nat → Nat} {h : AH} {k t n : Nat} (hs : hS h k = .inr (t, n)) : ent G ad h k = .inl (gA G t, n, if t = 1 then .inr (.inl (hL h k)) else if t < 3 then .inl (hI h k) else .inr (.inr (.inr (.inr (fun j => hd ad (hR h k j)))))) := by simp [ent, hs]
section ArrRows
variable {G : GP} {l : Launch} {M : MD} {pc : Nat} {ls : List (Option AV)} {st : List AV} {h : AH} {uc us : Nat} {K : Option AV → AH → Prop}
theorem Go.iaload {k : Nat} {i : Int32} (hdg : decode (mdB M) pc = .ok (.iaload, 1)) (ho : InA h k 0 i) (kk : Go G l M (pc + 1) ls (vI (hI h k (ix i)) :: st) h uc us K) : Go G l M pc ls (vI i :: vR k :: st) h uc us K := by
  intro p e s m args below meth c ad A H locs la E hA hw hx hS hl
  obtain ⟨n, ho, hi⟩ := ho
  simp only [List.map_cons, cv_ref ho.1]
  exact va_iald E.1 E.2.1 hw.2.1 hw.1 (k - 1) 0 (Wd.ar ho) (gT_at G).1 hi hdg (kk p e s m args below meth c ad A H locs la E hA hw hx hS hl)
theorem Go.baload {k : Nat} {i : Int32} (hdg : decode (mdB M) pc = .ok (.baload, 1)) (ho : InA h k 2 i) (kk : Go G l M (pc + 1) ls (vI (hI h k (ix i)) :: st) h uc us K) : Go G l M pc ls (vI i :: vR k :: st) h uc us K := by
  intro p e s m args below meth c ad A H locs la E hA hw hx hS hl
  obtain ⟨n, ho, hi⟩ := ho
  simp only [List.map_cons, cv_ref ho.1]
  exact va_zald E.1 E.2.1 hw.2.1 hw.1 (k - 1) 2 (Wd.ar ho) (gT_at G).2.2.1 hi hdg (kk p e s m args below meth c ad A H locs la E hA hw hx hS hl)
theorem Go.laload {k : Nat} {i : Int32} (hdg : decode (mdB M) pc = .ok (.laload, 1)) (ho : InA h k 1 i) (kk : Go G l M (pc + 1) ls (vL (hL h k (ix i)) :: st) h uc us K) : Go G l M pc ls (vI i :: vR k :: st) h uc us K := by
  intro p e s m args below meth c ad A H locs la E hA hw hx hS hl
  obtain ⟨n, ho, hi⟩ := ho
  simp only [List.map_cons, cv_ref ho.1]
  exact va_lald E.1 E.2.1 hw.2.1 hw.1 (k - 1) 1 (Wd.ar ho) (gT_at G).2.1 hi hdg (kk p e s m args below meth c ad A H locs la E hA hw hx hS hl)
theorem Go.aaload {k t : Nat} {i : Int32} (hdg : decode (mdB M) pc = .ok (.aaload, 1)) (ht : t = 3 ∨ t = 4) (ho : InA h k t i) (kk : Go G l M (pc + 1) ls (vR (hR h k (ix i)) :: st) h uc us K) : Go G l M pc ls (vI i :: vR k :: st) h uc us K := by
  intro p e s m args below meth c ad A H locs la E hA hw hx hS hl
  obtain ⟨n, ho, hi⟩ := ho
  simp only [List.map_cons, cv_ref ho.1]
  rcases ht with rfl | rfl
  · exact va_aldq E.1 E.2.1 hw.2.1 hw.1 (k - 1) 3 (Wd.ar ho) (gT_at G).2.2.2.1 hi hdg (kk p e s m args below meth c ad A H locs la E hA hw hx hS hl)
  · exact va_aldq E.1 E.2.1 hw.2.1 hw.1 (k - 1) 4 (Wd.ar ho) (gT_at G).2.2.2.2 hi hdg (kk p e s m args below meth c ad A H locs la E hA hw hx hS hl)
theorem Go.iastore {k : Nat} {i x : Int32} (hdg : decode (mdB M) pc = .ok (.iastore, 1)) (ho : InA h k 0 i) (kk : Go G l M (pc + 1) ls st (setI h k (ix i) x) uc us K) : Go G l M pc ls (vI x :: vI i :: vR k :: st) h uc us K := by
  intro p e s m args below meth c ad A H locs la E hA hw hx hS hl
  obtain ⟨n, ho, hi⟩ := ho
  simp only [List.map_cons, cv_ref ho.1]
  refine va_iast E.1 E.2.1 hw.2.1 hw.1 hw.2.2.1 hS (k - 1) 0 (Wd.ar ho) (gT_at G).1 hi hdg (fun H1 locs1 hP1 hD1 hS1 => ?_)
  refine kk p e s m args below meth c ad A H1 locs1 la E hA (hw.upd rfl ho.1 ho.2.1 (fun k' z => ent_setI z) ?_ hw.2.2.2.2.2 hP1 hD1) hx hS1 hl
  rw [ent_ar (h := setI h k (ix i) x) (t := 0) (n := n) ho.2.2]
  have : hI (setI h k (ix i) x) k = upd (hI h k) i.toNatClampNeg x := by funext z; simp [hI, setI, up2, upd, ix]
  simp [this]
theorem Go.bastore {k : Nat} {i x : Int32} (hdg : decode (mdB M) pc = .ok (.bastore, 1)) (ho : InA h k 2 i) (hx01 : x = 0 ∨ x = 1) (kk : Go G l M (pc + 1) ls st (setI h k (ix i) x) uc us K) : Go G l M pc ls (vI x :: vI i :: vR k :: st) h uc us K := by
  intro p e s m args below meth c ad A H locs la E hA hw hx hS hl
  obtain ⟨n, ho, hi⟩ := ho
  simp only [List.map_cons, cv_ref ho.1]
  refine va_zast E.1 E.2.1 hw.2.1 hw.1 hw.2.2.1 hS (k - 1) 2 (Wd.ar ho) (gT_at G).2.2.1 hi hdg (fun H1 locs1 hP1 hD1 hS1 => ?_)
  rw [vp_boo hx01] at hP1 hD1
  refine kk p e s m args below meth c ad A H1 locs1 la E hA (hw.upd rfl ho.1 ho.2.1 (fun k' z => ent_setI z) ?_ hw.2.2.2.2.2 hP1 hD1) hx hS1 hl
  rw [ent_ar (h := setI h k (ix i) x) (t := 2) (n := n) ho.2.2]
  have : hI (setI h k (ix i) x) k = upd (hI h k) i.toNatClampNeg x := by funext z; simp [hI, setI, up2, upd, ix]
  simp [this]
theorem Go.lastore {k : Nat} {i : Int32} {x : Int64} (hdg : decode (mdB M) pc = .ok (.lastore, 1)) (ho : InA h k 1 i) (kk : Go G l M (pc + 1) ls st (setL h k (ix i) x) uc us K) : Go G l M pc ls (vL x :: vI i :: vR k :: st) h uc us K := by
  intro p e s m args below meth c ad A H locs la E hA hw hx hS hl
  obtain ⟨n, ho, hi⟩ := ho
  simp only [List.map_cons, cv_ref ho.1]
  refine va_last E.1 E.2.1 hw.2.1 hw.1 hw.2.2.1 hS (k - 1) 1 (Wd.ar ho) (gT_at G).2.1 hi hdg (fun H1 locs1 hP1 hD1 hS1 => ?_)
  refine kk p e s m args below meth c ad A H1 locs1 la E hA (hw.upd rfl ho.1 ho.2.1 (fun k' z => ent_setL z) ?_ hw.2.2.2.2.2 hP1 hD1) hx hS1 hl
  rw [ent_ar (h := setL h k (ix i) x) (t := 1) (n := n) ho.2.2]
  have : hL (setL h k (ix i) x) k = vp_updL (hL h k) i.toNatClampNeg x := by funext z; simp [hL, setL, up2, vp_updL, ix]
  simp [this]
/-- the classes whose objects the rows of type 3 and 4 hold -/
theorem Go.aastore {k t ci x : Nat} {i : Int32} (hdg : decode (mdB M) pc = .ok (.aastore, 1)) (ht : (t = 3 ∧ ci = 7) ∨ (t = 4 ∧ ci = 1)) (ho : InA h k t i) (hv : Ob h x ci) (kk : Go G l M (pc + 1) ls st (setR h k (ix i) x) uc us K) : Go G l M pc ls (vR x :: vI i :: vR k :: st) h uc us K := by
  intro p e s m args below meth c ad A H locs la E hA hw hx hS hl
  obtain ⟨n, ho, hi⟩ := ho
  simp only [List.map_cons, cv_ref ho.1, cv_ref hv.1]
  have hx0 : ¬ x = 0 := by have := hv.1; omega
  have e1 : (fun j => hd ad (hR (setR h k (ix i) x) k j)) = va_up (fun j => hd ad (hR h k j)) i.toNatClampNeg (some (ad x)) := by
    funext z
    by_cases hz : z = i.toNatClampNeg
    · subst hz; simp [hR, setR, up2, ix, va_up, hd, hx0]
    · simp [hR, setR, up2, ix, va_up, hz]
  rcases ht with ⟨rfl, rfl⟩ | ⟨rfl, rfl⟩
  · refine va_astq (r := (RX7, TX7, 8)) E.1 E.2.1 hw.2.1 hw.1 hw.2.2.1 hS (k - 1) 3 (x - 1) 7 (Wd.ar ho) (gT_at G).2.2.2.1 (Wd.ob (A := A) (s := s) (H := H) hv) rfl hi hdg (fun H1 locs1 hP1 hD1 hS1 => ?_)
    refine kk p e s m args below meth c ad A H1 locs1 la E hA (hw.upd rfl ho.1 ho.2.1 (fun k' z => ent_setR z) ?_ (hw.2.2.2.2.2.setR hv.2.1) hP1 hD1) hx hS1 hl
    rw [ent_ar (h := setR h k (ix i) x) (t := 3) (n := n) ho.2.2, e1]
    rfl
  · refine va_astq (r := (RX1, TX1, 3)) E.1 E.2.1 hw.2.1 hw.1 hw.2.2.1 hS (k - 1) 4 (x - 1) 1 (Wd.ar ho) (gT_at G).2.2.2.2 (Wd.ob (A := A) (s := s) (H := H) hv) rfl hi hdg (fun H1 locs1 hP1 hD1 hS1 => ?_)
    refine kk p e s m args below meth c ad A H1 locs1 la E hA (hw.upd rfl ho.1 ho.2.1 (fun k' z => ent_setR z) ?_ (hw.2.2.2.2.2.setR hv.2.1) hP1 hD1) hx hS1 hl
    rw [ent_ar (h := setR h k (ix i) x) (t := 4) (n := n) ho.2.2, e1]
    rfl
theorem Go.alen {k t n : Nat} (hdg : decode (mdB M) pc = .ok (.arraylength, 1)) (ht : t < 5) (ho : Ar h k t n) (kk : Go G l M (pc + 1) ls (vI (nI n) :: st) h uc us K) : Go G l M pc ls (vR k :: st) h uc us K := by
  intro p e s m args below meth c ad A H locs la E hA hw hx hS hl
  simp only [List.map_cons, cv_ref ho.1]
  have ht' : (gT G)[t]? = some (gA G t, ((gT G)[t]?.map (fun q => q.2)).getD .int) := by
    match t, ht with
    | 0, _ => rfl
    | 1, _ => rfl
    | 2, _ => rfl
    | 3, _ => rfl
    | 4, _ => rfl
  exact va_alen E.1 E.2.1 hw.2.1 hw.1 (k - 1) t (Wd.ar ho) ht' rfl hdg (kk p e s m args below meth c ad A H locs la E hA hw hx hS hl)
/-! answers -/
theorem Go.fin {r : Option AV} {s t : State} {ad : Nat → Nat} {A : Nat → Prop} {H : Heap} {locs : List Loc} {args : Array Value} {d : Nat} (hw : Wd G ad h A s H) (hS : va_S A s.heap H locs) (hk : K r h) (ht : t.heap = H) (hW : s.WarmedH t.vm) : Qs G d ad h A K args s (.returned (r.map (cv ad))) t := by
  refine ⟨⟨r, h, ad, rfl, hk, Nat.le_refl _, by omega, adE.rf, ?_⟩, hS.F ht⟩
  rw [ht]
  exact ⟨hw.1, va_K.moved hW.alike hw.2.1, hw.2.2⟩
theorem Go.ireturn {x : Int32} (hdg : decode (mdB M) pc = .ok (.ireturn, 1)) (hr : mdT M = some .int) (hc : uc ≤ (mdR M).cells) (hs : us ≤ (mdR M).slots) (hk : K (some (vI x)) h) : Go G l M pc ls [vI x] h uc us K := by
  intro p e s m args below meth c ad A H locs la E hA hw hx hS hl
  refine W.widen hc hs ?_
  exact W.iret E.1 E.2.1 (E.2.2.1.trans hr) (fun t ht hW => Go.fin (r := some (vI x)) hw hS hk ht hW) hS.2.2 hdg E.2.2.2.2.2.2.1
theorem Go.zreturn {x : Int32} (hdg : decode (mdB M) pc = .ok (.ireturn, 1)) (hr : mdT M = some .boolean) (hx01 : x = 0 ∨ x = 1) (hc : uc ≤ (mdR M).cells) (hs : us ≤ (mdR M).slots) (hk : K (some (vI x)) h) : Go G l M pc ls [vI x] h uc us K := by
  intro p e s m args below meth c ad A H locs la E hA hw hx hS hl
  refine W.widen hc hs ?_
  exact W.zret E.1 E.2.1 (E.2.2.1.trans hr) (by rcases hx01 with rfl | rfl <;> rfl) (fun t ht hW => Go.fin (r := some (vI x)) hw hS hk ht hW) hS.2.2 hdg E.2.2.2.2.2.2.1
theorem Go.lreturn {x : Int64} (hdg : decode (mdB M) pc = .ok (.lreturn, 1)) (hr : mdT M = some .long) (hc : uc ≤ (mdR M).cells) (hs : us ≤ (mdR M).slots) (hk : K (some (vL x)) h) : Go G l M pc ls [vL x] h uc us K := by
  intro p e s m args below meth c ad A H locs la E hA hw hx hS hl
  refine W.widen hc hs ?_
  exact W.lret E.1 E.2.1 (E.2.2.1.trans hr) (fun t ht hW => Go.fin (r := some (vL x)) hw hS hk ht hW) hS.2.2 hdg E.2.2.2.2.2.2.1
theorem Go.areturn {x : Nat} (hdg : decode (mdB M) pc = .ok (.areturn, 1)) {C : String} (hr : mdT M = some (.object C)) (hc : uc ≤ (mdR M).cells) (hs : us ≤ (mdR M).slots) (hk : K (some (vR x)) h) : Go G l M pc ls [vR x] h uc us K := by
  intro p e s m args below meth c ad A H locs la E hA hw hx hS hl
  refine W.widen hc hs ?_
  exact W.aret E.1 E.2.1 (E.2.2.1.trans hr) (Or.inl ⟨_, rfl⟩) (by
    by_cases e0 : x = 0
    · subst e0; exact Or.inl rfl
    · exact Or.inr ⟨ad x, cv_ref (by omega)⟩) (fun t ht hW => Go.fin (r := some (vR x)) hw hS hk ht hW) hS.2.2 hdg E.2.2.2.2.2.2.1
theorem Go.vreturn (hdg : decode (mdB M) pc = .ok (.return_, 1)) (hr : mdT M = none) (hc : uc ≤ (mdR M).cells) (hs : us ≤ (mdR M).slots) (hk : K none h) : Go G l M pc ls [] h uc us K := by
  intro p e s m args below meth c ad A H locs la E hA hw hx hS hl
  refine W.widen hc hs ?_
  exact W.vret E.1 E.2.1 (E.2.2.1.trans hr) (fun t ht hW => Go.fin (r := none) hw hS hk ht hW) hS.2.2 hdg E.2.2.2.2.2.2.1
end ArrRows
end
section
/-! ===== calls ===== -/
theorem okAll : lw_ok.all goodWord = true := List.all_eq_true.mpr fun w hw => (List.mem_filter.mp hw).2
/-- a method of the tables, with n parameters -/
def MOK (N : MD) (n : Nat) : Prop := Cond.code (mdN N) (mdB N) (mdL N) (mdT N) ∈ lw_ok ∧ Cond.initialized (mdN N).cls ∈ lw_ok ∧ (mdN N).cls ≠ "java/lang/invoke/MethodHandle" ∧ (mdN N).cls ≠ "java/lang/invoke/VarHandle" ∧ (parseMethodDescriptor (mdN N).desc).map (fun d => d.parameters.length) = some n
def MOKv (N : MD) : Prop := Cond.instanceMethod (mdN N) ∈ lw_ok ∧ Cond.selects (mdN N).cls (mdN N) (mdN N) ∈ lw_ok
theorem MOK.good {N : MD} {n : Nat} (h : MOK N n) : GoodIn lw_ok (wsM N) := by
  intro w hw
  rcases List.mem_cons.mp hw with rfl | hw
  · exact ⟨h.1, good_of_word (List.all_eq_true.mp okAll _ h.1)⟩
  · exact ⟨hw, good_of_word (List.all_eq_true.mp okAll _ hw)⟩
theorem MOK.callB {N : MD} {n i : Nat} {R : Room} {s : State} {args : Array Value} {own : String} (h : MOK N n) (ht : ∀ w ∈ lw_ok, w.before args s = true) (hl : (Cond.methodLink own i (mdN N)).before args s = true) (hR : (mdR N).frames + 1 ≤ R.frames ∧ 8 + (mdL N + 11) + (mdR N).locals ≤ R.locals) : CallB R s args own i (mdN N) (mdB N) (mdL N) (mdT N) (wsM N) (mdR N) (mdR N).cells (mdR N).slots n :=
  callB_of n ht h.good rfl rfl rfl (ht _ h.2.1) hl ⟨h.2.2.1, h.2.2.2.1, h.2.2.2.2⟩ hR
theorem MOK.callN {N : MD} {n i : Nat} {R : Room} {s : State} {args : Array Value} {own host : String} (h : MOK N n) (ht : ∀ w ∈ lw_ok, w.before args s = true) (hl : va_Nw (.methodLinkNest own i (mdN N) host) s) (hR : (mdR N).frames + 1 ≤ R.frames ∧ 8 + (mdL N + 11) + (mdR N).locals ≤ R.locals) : va_CN R s args own i (mdN N) host (mdB N) (mdL N) (mdT N) (wsM N) (mdR N) (mdR N).cells (mdR N).slots n :=
  va_cnB n ht h.good rfl rfl rfl hl (ht _ h.2.1) ⟨h.2.2.1, h.2.2.2.1, h.2.2.2.2⟩ hR
/-- the handles that a row of values names lie below n -/
def okV (n : Nat) : List AV → Prop
  | [] => True
  | .inr (.inr k) :: as => k ≤ n ∧ okV n as
  | _ :: as => okV n as
def okO (n : Nat) : List (Option AV) → Prop
  | [] => True
  | some (.inr (.inr k)) :: as => k ≤ n ∧ okO n as
  | _ :: as => okO n as
theorem okV.eq {n n' : Nat} {ad ad' : Nat → Nat} (he : adE n n' ad ad') : ∀ {as : List AV}, okV n as → as.map (cv ad') = as.map (cv ad)
  | [], _ => rfl
  | .inl x :: as, h => by simp only [List.map_cons]; rw [okV.eq he (as := as) h]; rfl
  | .inr (.inl x) :: as, h => by simp only [List.map_cons]; rw [okV.eq he (as := as) h]; rfl
  | .inr (.inr k) :: as, h => by
    simp only [List.map_cons]
    rw [okV.eq he (as := as) h.2]
    congr 1
    simp only [cv, hd]
    rw [he k (Or.inl h.1)]
theorem okO.eq {n n' : Nat} {ad ad' : Nat → Nat} (he : adE n n' ad ad') : ∀ {ls : List (Option AV)} (i : Nat) (a : AV), okO n ls → ls[i]? = some (some a) → cv ad' a = cv ad a
  | [], i, a, _, h => by simp at h
  | o :: ls, 0, a, ho, h => by
    simp at h
    subst h
    rcases a with x | x | k
    · rfl
    · rfl
    · simp only [cv, hd]
      rw [he k (Or.inl ho.1)]
  | o :: ls, i + 1, a, ho, h => by
    have h' : ls[i]? = some (some a) := by simpa using h
    refine okO.eq he (ls := ls) i a ?_ h'
    match o, ho with
    | none, ho => exact ho
    | some (.inl _), ho => exact ho
    | some (.inr (.inl _)), ho => exact ho
    | some (.inr (.inr _)), ho => exact ho.2
def okLS (n : Nat) (c : Nat) (ls : List (Option AV)) (st : List AV) : Prop := c = 0 ∨ (okO n ls ∧ okV n st)
section CallRows
variable {G : GP} {l : Launch} {M : MD} {pc : Nat} {ls : List (Option AV)} {st : List AV} {h : AH} {uc us : Nat} {K : Option AV → AH → Prop}
theorem Pc_blind {av : List Value} {G : GP} {ad : Nat → Nat} {h : AH} {A : Nat → Prop} {sz : Nat} : FrameBlind (va_Pc av (fun U => U.heap.size = sz ∧ Wd G ad h A U U.heap ∧ XT G A U U.heap)) := by
  intro a U g mk q
  obtain ⟨q0, q1, qW, qX⟩ := q
  exact ⟨q0, q1, ⟨qW.1, va_K.moved (u := U) (U := U.calling g mk a) (Vm.Alike.refl U.vm) qW.2.1, qW.2.2⟩, XT.same (s := U) (U := U.calling g mk a) rfl qX⟩
theorem Wd.free {ad : Nat → Nat} {A : Nat → Prop} {s : State} {H : Heap} {locs : List Loc} (hw : Wd G ad h A s H) (hA : ∀ q, s.heap.size ≤ q → A q) (hS : va_S A s.heap H locs) : ∀ q, va_A (wl G ad h) H.size q → A q := by
  intro q hq
  rcases hq with ⟨k, e, hk⟩ | hq
  · exact hw.2.2.1.2 k _ hk
  · exact hA q (Nat.le_trans hS.1 hq)
theorem Wd.pre {ad : Nat → Nat} {A : Nat → Prop} {s U : State} {H : Heap} {locs : List Loc} (hw : Wd G ad h A s H) (hx : XT G A s s.heap) (hA : ∀ q, s.heap.size ≤ q → A q) (hS : va_S A s.heap H locs) (hU : U.heap = H) (hW : s.WarmedH U.vm) : U.heap.size = H.size ∧ Wd G ad h (va_A (wl G ad h) H.size) U U.heap ∧ XT G (va_A (wl G ad h) H.size) U U.heap := by
  rw [hU]
  refine ⟨rfl, ⟨hw.1, va_K.moved hW.alike hw.2.1, hw.2.2.1.self, hw.2.2.2⟩, ?_⟩
  exact ((hx.kept hS.1 hS.2.1).narrow (hw.free hA hS)).warm hW
/-- behind a call -/
theorem Go.behind {N : MD} {p : Program} {e : Env} {s : State} {m : MethodId} {args : Array Value} {below : List Frame} {meth : Method} {c : Code} {ad : Nat → Nat} {A : Nat → Prop} {H : Heap} {locs : List Loc} {la : Array Slot} {st0 : List Value} {av : Array Value}
    (hr : va_Run p l e (mdR M) s m args below meth c H locs uc us (mdR N).cells (mdR N).slots (F0 m pc la st0) (st.map (cv ad)) (Qs G (mdR N).cells ad h (va_A (wl G ad h) H.size) (fun r h' => Go G l M (pc + 3) ls (r.toList ++ st) h' (uc + (mdR N).cells) (us + (mdR N).slots) K) av) (va_A (wl G ad h) H.size))
    (E : EV M p s m args meth c) (hA : ∀ q, s.heap.size ≤ q → A q) (hw : Wd G ad h A s H) (hx : XT G A s s.heap) (hS : va_S A s.heap H locs) (hl : LV ad la (mdL M) ls) (hok : okLS (hN h) (mdR N).cells ls st) (hc : uc + (mdR N).cells ≤ (mdR M).cells) :
    W p l e (mdR M) s m args below meth c H locs uc us (MQ below (Qs G ((mdR M).cells - uc) ad h A K) args s (mdR M).cells (mdR M).slots A) (F0 m pc la st0) := by
  intro T hT X
  obtain ⟨v, st₀, t, T', L, h0, X', hL, e1, e2, ⟨⟨r, h', ad', hv, hk, hn1, hn2, hae, hW⟩, hF⟩, stp⟩ := hr T hT X
  have hv' : v = r.map (cv ad') := by injection hv
  subst hv'
  have hfree := hw.free hA hS
  rw [va_F, h0] at hF
  have hvm : s.vm.Alike t.vm := by rw [← e2]; exact X'.warmed.alike
  have hadE : (mdR N).cells = 0 → ad' = ad := fun z => adE.eq (n := hN h) (by have : hN h' = hN h := by omega
                                                                              rw [this] at hae; exact hae)
  have hst : st.map (cv ad') = st.map (cv ad) := by
    rcases hok with z | ⟨-, z⟩
    · rw [hadE z]
    · exact okV.eq hae z
  have hl' : LV ad' la (mdL M) ls := by
    refine ⟨hl.1, hl.2.1, fun i a hi => ?_⟩
    rcases hok with z | ⟨z, -⟩
    · rw [hadE z]; exact hl.2.2 i a hi
    · rw [okO.eq hae i a z hi]; exact hl.2.2 i a hi
  have hS' : va_S A s.heap t.heap (locs ++ L) := by
    refine ⟨Nat.le_trans hS.1 hF.1, fun q g1 g2 => ?_, fun q hq => ?_⟩
    · rw [hF.2 q (Nat.lt_of_lt_of_le g1 hS.1) (fun z => g2 (hfree q z))]
      exact hS.2.1 q g1 g2
    · rcases List.mem_append.mp hq with z | z
      · exact hS.2.2 q z
      · exact hfree _ (hL q z)
  have hW' : Wd G ad' h' A s t.heap := ⟨hW.1, va_K.moved hvm.symm hW.2.1, hW.2.2.1.weaken (fun _ q _ z => hfree q.1 z), hW.2.2.2⟩
  have k1 := hk p e s m args below meth c ad' A t.heap (locs ++ L) la E hA hW' hx hS' hl' T' e1 X'
  obtain ⟨t2, a1, b1⟩ := k1
  refine ⟨t2, ?_, ?_⟩
  · refine stp t2 ?_
    have : (Option.map (cv ad') r).toList ++ st.map (cv ad) = (r.toList ++ st).map (cv ad') := by
      rw [List.map_append, hst]
      cases r <;> rfl
    show Steps _ _ _ (T'.setTop { F0 m pc la st0 with pc := pc + 3, stack := (Option.map (cv ad') r).toList ++ st.map (cv ad) }) t2
    rw [this]
    exact a1
  · refine MQ.mono (fun o t' q => ?_) b1
    obtain ⟨⟨r2, h2, ad2, q1, q2, q3, q4, q5, q6⟩, q7⟩ := q
    exact ⟨⟨r2, h2, ad2, q1, q2, Nat.le_trans hn1 q3, by omega, hae.tr q5 hn1 q3, q6⟩, q7⟩
theorem rest8 {ad : Nat → Nat} {st : List AV} (h : (st.map (fun a => if isL a then 2 else 1)).sum ≤ 8) : ((st.map (cv ad)).map fun v => v.category).sum ≤ 8 := by
  rw [List.map_map]
  have : ((fun v : Value => v.category) ∘ cv ad) = fun a => if isL a then 2 else 1 := funext fun a => cat_cv ad a
  rw [this]
  exact h
/-- what a call asks of the caller's room -/
def rmOK (N M : MD) (uc us : Nat) (st : List AV) : Prop := ((mdR N).frames + 1 ≤ (mdR M).frames ∧ 8 + (mdL N + 11) + (mdR N).locals ≤ (mdR M).locals) ∧ uc + (mdR N).cells ≤ (mdR M).cells ∧ us + (mdR N).slots ≤ (mdR M).slots ∧ (st.map (fun a => if isL a then 2 else 1)).sum ≤ 8
theorem Go.callV {N : MD} {n i b ci : Nat} {q : vw_C} {as : List AV} (hdg : decode (mdB M) pc = .ok (.invokevirtual i, 3)) (hm : MOK N n) (hv : MOKv N) (hlk : Cond.methodLink (mdN M).cls i (mdN N) ∈ lw_ok) (hn : as.length = n) (hq : vwCl[ci]? = some q) (hcl : q.1 = (mdN N).cls) (ho : Ob h b ci) (hr : rmOK N M uc us st) (hok : okLS (hN h) (mdR N).cells ls st)
    (hs : Spec G l N (vR b :: as) h (fun r h' => Go G l M (pc + 3) ls (r.toList ++ st) h' (uc + (mdR N).cells) (us + (mdR N).slots) K)) : Go G l M pc ls (as.reverse ++ vR b :: st) h uc us K := by
  intro p e s m args below meth c ad A H locs la E hA hw hx hS hl
  have hts := E.2.2.2.2.2.1
  have hcv : (vR b :: as).map (cv ad) = Value.ref (ad b) :: as.map (cv ad) := by rw [List.map_cons, cv_ref ho.1]
  have hM := hs ad H.size
  rw [hcv] at hM
  have hR := va_recv hw.2.1 hw.1 hq (Wd.ob (A := A) (s := s) (H := H) ho)
  rw [hcl] at hR
  have run := va_runV (p := p) (e := e) (below := below) (meth := meth) (locs := locs) (cells := uc) (slots := us) (As := as.map (cv ad)) (rest := st.map (cv ad)) (g := F0 m pc la (((as.reverse ++ vR b :: st)).map (cv ad))) (C := (mdN N).cls) (b := ad b) (H := H) (R := mdR M) ⟨E.1, E.2.1, E.2.2.2.1, E.2.2.2.2.1, hts⟩ hM ⟨hm.callB hts (hts _ hlk) hr.1, hts _ hv.1, hts _ hv.2⟩ ⟨Pc_blind, hR, fun U hU hW => ⟨rfl, hw.pre hx hA hS hU hW⟩⟩ rfl (by simp [hn]) hl.1 (by simp [cv_ref ho.1]) (lv_room (rest8 hr.2.2.2)) hdg ⟨hr.2.1, hr.2.2.1⟩
  exact Go.behind run E hA hw hx hS hl hok hr.2.1
theorem Go.callS {N : MD} {n i : Nat} {as : List AV} (hdg : decode (mdB M) pc = .ok (.invokestatic i, 3)) (hm : MOK N n) (hv : Cond.static (mdN N) ∈ lw_ok) (hlk : Cond.methodLink (mdN M).cls i (mdN N) ∈ lw_ok) (hn : as.length = n) (hr : rmOK N M uc us st) (hok : okLS (hN h) (mdR N).cells ls st)
    (hs : Spec G l N as h (fun r h' => Go G l M (pc + 3) ls (r.toList ++ st) h' (uc + (mdR N).cells) (us + (mdR N).slots) K)) : Go G l M pc ls (as.reverse ++ st) h uc us K := by
  intro p e s m args below meth c ad A H locs la E hA hw hx hS hl
  have hts := E.2.2.2.2.2.1
  have hM := hs ad H.size
  have run := va_runS (p := p) (e := e) (below := below) (meth := meth) (locs := locs) (cells := uc) (slots := us) (As := as.map (cv ad)) (rest := st.map (cv ad)) (g := F0 m pc la (((as.reverse ++ st)).map (cv ad))) (H := H) (R := mdR M) ⟨E.1, E.2.1, E.2.2.2.1, E.2.2.2.2.1, hts⟩ hM ⟨hm.callB hts (hts _ hlk) hr.1, hts _ hv⟩ ⟨Pc_blind, fun U hU hW => ⟨rfl, hw.pre hx hA hS hU hW⟩⟩ rfl (by simp [hn]) hl.1 (by simp) (lv_room (rest8 hr.2.2.2)) hdg ⟨hr.2.1, hr.2.2.1⟩
  exact Go.behind run E hA hw hx hS hl hok hr.2.1
theorem Go.callSN {N : MD} {n i : Nat} {as : List AV} {host : String} (hdg : decode (mdB M) pc = .ok (.invokestatic i, 3)) (hm : MOK N n) (hv : Cond.static (mdN N) ∈ lw_ok) (hlk : Cond.methodLinkNest (mdN M).cls i (mdN N) host ∈ lw_tbl) (hn : as.length = n) (hr : rmOK N M uc us st) (hok : okLS (hN h) (mdR N).cells ls st)
    (hs : Spec G l N as h (fun r h' => Go G l M (pc + 3) ls (r.toList ++ st) h' (uc + (mdR N).cells) (us + (mdR N).slots) K)) : Go G l M pc ls (as.reverse ++ st) h uc us K := by
  intro p e s m args below meth c ad A H locs la E hA hw hx hS hl
  have hts := E.2.2.2.2.2.1
  have hM := hs ad H.size
  have run := va_runSN (p := p) (e := e) (below := below) (meth := meth) (locs := locs) (cells := uc) (slots := us) (As := as.map (cv ad)) (rest := st.map (cv ad)) (g := F0 m pc la (((as.reverse ++ st)).map (cv ad))) (H := H) (R := mdR M) ⟨E.1, E.2.1, E.2.2.2.1, E.2.2.2.2.1, hts⟩ hM ⟨hm.callN hts (hx.2.2.2.2.2.2.2.2.2.1 _ hlk rfl) hr.1, hts _ hv, trivial⟩ ⟨Pc_blind, fun U hU hW => ⟨rfl, hw.pre hx hA hS hU hW⟩⟩ rfl (by simp [hn]) hl.1 (by simp) (lv_room (rest8 hr.2.2.2)) hdg ⟨hr.2.1, hr.2.2.1⟩
  exact Go.behind run E hA hw hx hS hl hok hr.2.1
theorem Go.callI {N : MD} {n i b ci : Nat} {as : List AV} (hdg : decode (mdB M) pc = .ok (.invokespecial i, 3)) (hm : MOK N n) (hT : mdT N = none) (hv : Cond.instanceMethod (mdN N) ∈ lw_ok) (hnm : (mdN N).name = "<init>") (hlk : Cond.methodLink (mdN M).cls i (mdN N) ∈ lw_ok) (hn : as.length = n) (ho : Ob h b ci) (hr : rmOK N M uc us st) (hok : okLS (hN h) (mdR N).cells ls st)
    (hs : Spec G l N (vR b :: as) h (fun r h' => Go G l M (pc + 3) ls (r.toList ++ st) h' (uc + (mdR N).cells) (us + (mdR N).slots) K)) : Go G l M pc ls (as.reverse ++ vR b :: st) h uc us K := by
  intro p e s m args below meth c ad A H locs la E hA hw hx hS hl
  have hts := E.2.2.2.2.2.1
  have hcv : (vR b :: as).map (cv ad) = Value.ref (ad b) :: as.map (cv ad) := by rw [List.map_cons, cv_ref ho.1]
  have hM := hs ad H.size
  rw [hcv] at hM
  have hB := hm.callB (R := mdR M) (i := i) hts (hts _ hlk) hr.1
  rw [hT] at hB
  have run := va_runI (p := p) (e := e) (below := below) (meth := meth) (locs := locs) (cells := uc) (slots := us) (As := as.map (cv ad)) (rest := st.map (cv ad)) (g := F0 m pc la (((as.reverse ++ vR b :: st)).map (cv ad))) (b := ad b) (H := H) (R := mdR M) ⟨E.1, E.2.1, E.2.2.2.1, E.2.2.2.2.1, hts⟩ hM ⟨hB, hnm, hts _ hv⟩ ⟨Pc_blind, fun U hU hW => ⟨rfl, hw.pre hx hA hS hU hW⟩⟩ rfl (by simp [hn]) hl.1 (by simp [cv_ref ho.1]) (lv_room (rest8 hr.2.2.2)) hdg ⟨hr.2.1, hr.2.2.1⟩
  exact Go.behind run E hA hw hx hS hl hok hr.2.1
theorem Go.callIN {N : MD} {n i b ci : Nat} {as : List AV} {host : String} (hdg : decode (mdB M) pc = .ok (.invokespecial i, 3)) (hm : MOK N n) (hT : mdT N = none) (hv : Cond.instanceMethod (mdN N) ∈ lw_ok) (hnm : (mdN N).name = "<init>") (hlk : Cond.methodLinkNest (mdN M).cls i (mdN N) host ∈ lw_tbl) (hn : as.length = n) (ho : Ob h b ci) (hr : rmOK N M uc us st) (hok : okLS (hN h) (mdR N).cells ls st)
    (hs : Spec G l N (vR b :: as) h (fun r h' => Go G l M (pc + 3) ls (r.toList ++ st) h' (uc + (mdR N).cells) (us + (mdR N).slots) K)) : Go G l M pc ls (as.reverse ++ vR b :: st) h uc us K := by
  intro p e s m args below meth c ad A H locs la E hA hw hx hS hl
  have hts := E.2.2.2.2.2.1
  have hcv : (vR b :: as).map (cv ad) = Value.ref (ad b) :: as.map (cv ad) := by rw [List.map_cons, cv_ref ho.1]
  have hM := hs ad H.size
  rw [hcv] at hM
  have hB := hm.callN (R := mdR M) (i := i) hts (hx.2.2.2.2.2.2.2.2.2.1 _ hlk rfl) hr.1
  rw [hT] at hB
  have run := va_runIN (p := p) (e := e) (below := below) (meth := meth) (locs := locs) (cells := uc) (slots := us) (As := as.map (cv ad)) (rest := st.map (cv ad)) (g := F0 m pc la (((as.reverse ++ vR b :: st)).map (cv ad))) (b := ad b) (H := H) (R := mdR M) ⟨E.1, E.2.1, E.2.2.2.1, E.2.2.2.2.1, hts⟩ hM ⟨hB, hnm, hts _ hv⟩ ⟨Pc_blind, fun U hU hW => ⟨rfl, hw.pre hx hA hS hU hW⟩⟩ rfl (by simp [hn]) hl.1 (by simp [cv_ref ho.1]) (lv_room (rest8 hr.2.2.2)) hdg ⟨hr.2.1, hr.2.2.1⟩
  exact Go.behind run E hA hw hx hS hl hok hr.2.1
theorem Met.ofWF {y : MethodName} {ws ws' : List Cond} {rm : Room} {Pc : Array Value → State → Prop} {Qc : Array Value → State → Outcome → State → Prop} {mc ms : Nat} {free : Addr → Prop} {cc : ByteArray} {maxL : Nat} {ret : Option FieldType}
    (hy : plainFor y = true) (hw : ws = Cond.code y cc maxL ret :: ws')
    (body : ∀ p e s m args below meth c s₁, BodyLoose p l y (headSpec ws rm) cc maxL ret e s m args below meth c s₁ → c.maxLocals = maxL → Pc args s →
      W p l e (headSpec ws rm).room s m args below meth c s.heap [] 0 0 (MQ below Qc args s mc ms free) (entryFrame m args maxL)) : Met l y ws rm Pc Qc mc ms free := by
  refine MetFree.of_bodySF (code := cc) (maxLocals := maxL) (ret := ret) hy ?_ ?_
  · intro args s m h hn
    obtain ⟨meth, c, h1, h2, h3, h4, h5, h6, -, -⟩ := Cond.code_spec hn (atoms_spec (ws := ws) h _ (by rw [hw]; exact List.mem_cons_self))
    exact ⟨meth, c, h1, h2, h3, h4, h5, h6⟩
  · intro p e s m args below meth c s₁ B hml hP _
    have hh0 : s₁.heap = s.heap := by rw [B.state]; rfl
    obtain ⟨t, a1, o, b1, b2, b3⟩ := body p e s m args below meth c s₁ B hml hP s₁ hh0 (Stand.of_body B)
    exact ⟨t, o, a1, b1, b2, ⟨b3.1, b3.2⟩⟩
/-- the contract out of the walk from the entry -/
theorem Spec.of {n : Nat} {as : List AV} (hm : MOK M n) (hp : plainFor (mdN M) = true) (hn : (enL as).length ≤ mdL M) (k : Go G l M 0 (entL as (mdL M)) [] h 0 0 K) : Spec G l M as h K := by
  intro ad sz
  refine Met.ofWF (cc := mdB M) (maxL := mdL M) (ret := mdT M) hp rfl ?_
  intro p e s m args below meth c s₁ B hml hv
  obtain ⟨rfl, hsz, hw, hx⟩ := hv
  have hts0 := atoms_spec (ws := wsM M) B.pre
  have hown : s.vm.findClass (mdN M).cls = some m.cls := findClass_of_methodNamed B.named
  have E : EV M p s m ((as.map (cv ad)).toArray) meth c := ⟨B.exec, B.bytes, B.returns, hml, hown, fun w hw => hts0 w (List.mem_cons_of_mem _ hw), B.notSynchronized, (name_of_methodNamed B.named B.method).1⟩
  rw [lg_entry_eq]
  subst hsz
  exact k p e s m _ below meth c ad _ s.heap [] _ E (fun q z => Or.inr z) hw hx va_S.rf (LV.entry hn)
end CallRows
end
section
/-! ===== cells that are made; rows copied; the constants and the script ===== -/
def adN (ad : Nat → Nat) (n q : Nat) : Nat → Nat := fun k => if k = n + 1 then q else ad k
theorem adN_E {ad : Nat → Nat} {n q : Nat} : adE n (n + 1) ad (adN ad n q) := by
  intro k hk
  have : k ≠ n + 1 := by omega
  simp [adN, this]
theorem ent_newC {G : GP} {ad : Nat → Nat} {h : AH} {sp : Nat ⊕ (Nat × Nat)} {q k : Nat} (hr : RF h) (hk : k ≤ hN h) : ent G (adN ad (hN h) q) (newC h sp) k = ent G ad h k := by
  have hk1 : ¬ k = h.1 + 1 := by unfold hN at hk; omega
  have e0 : hS (newC h sp) k = hS h k := by simp [hS, newC, hk1]
  have e1 : hI (newC h sp) k = hI h k := by simp [hI, newC, hk1]
  have e2 : hL (newC h sp) k = hL h k := by simp [hL, newC, hk1]
  have e3 : hR (newC h sp) k = hR h k := by simp [hR, newC, hk1]
  have e4 : ∀ j, hd (adN ad (hN h) q) (hR h k j) = hd ad (hR h k j) := by
    intro j
    have := hr k j hk
    simp only [hd, adN]
    rw [if_neg (show ¬ hR h k j = hN h + 1 by omega)]
  unfold ent fvl
  simp only [e0, e1, e2, e3, e4]
theorem wl_newC {G : GP} {ad : Nat → Nat} {h : AH} {sp : Nat ⊕ (Nat × Nat)} {q : Nat} (hr : RF h) : wl G (adN ad (hN h) q) (newC h sp) = wl G ad h ++ [(q, ent G (adN ad (hN h) q) (newC h sp) (hN h + 1))] := by
  have hn : hN (newC h sp) = hN h + 1 := rfl
  unfold wl
  rw [hn, List.range_succ, List.map_append]
  congr 1
  · apply List.map_congr_left
    intro k hk
    have hk := List.mem_range.mp hk
    rw [ent_newC hr (by omega)]
    simp only [adN]
    rw [if_neg (show ¬ k + 1 = hN h + 1 by omega)]
  · simp [adN]
theorem RF.newC {h : AH} {sp : Nat ⊕ (Nat × Nat)} (hr : RF h) : RF (newC h sp) := by
  intro k j hk
  show (if k = h.1 + 1 then (fun _ => 0) else h.2.2.2.2 k) j ≤ h.1 + 1
  by_cases z : k = h.1 + 1
  · simp [z]
  · rw [if_neg z]
    have hk' : k ≤ h.1 + 1 := hk
    have := hr k j (by unfold hN; omega)
    unfold hN hR at this
    omega
theorem Wd.newC {G : GP} {ad : Nat → Nat} {h : AH} {A : Nat → Prop} {s : State} {H H1 : Heap} {sp : Nat ⊕ (Nat × Nat)} {q : Nat} {e : va_E} (hw : Wd G ad h A s H) (hx : hN h + 1 < xh) (he : ent G (adN ad (hN h) q) (newC h sp) (hN h + 1) = e) (hP : va_P (gD G) vwCl (wl G ad h ++ [(q, e)]) H1) (hD : va_D A (wl G ad h ++ [(q, e)])) : Wd G (adN ad (hN h) q) (newC h sp) A s H1 := by
  have hr := hw.2.2.2.2.2
  subst he
  rw [← wl_newC hr] at hP hD
  refine ⟨hP, hw.2.1, hD, hx, ?_, hr.newC⟩
  have z : ∀ i, adN ad (hN h) q (xh + i) = ad (xh + i) := fun i => by
    simp only [adN]
    rw [if_neg (by omega)]
  have a := hw.2.2.2.2.1
  exact ⟨(z 0).trans a.1, (z 1).trans a.2.1, (z 2).trans a.2.2.1, (z 9).trans a.2.2.2⟩
/-- the first value of a field, by its kind -/
def dfl (t : Nat) : Value := if t = 1 then .long 0 else if t = 2 then .null else .int 0
theorem sh_newC {h : AH} {sp : Nat ⊕ (Nat × Nat)} : hS (newC h sp) (hN h + 1) = sp := by simp [hS, newC, hN]
theorem fv_newC {ad : Nat → Nat} {h : AH} {sp : Nat ⊕ (Nat × Nat)} {ci j : Nat} : fvl ad (newC h sp) (hN h + 1) ci j = dfl (kd ci j) := by
  have e1 : hI (newC h sp) (hN h + 1) j = 0 := by simp [hI, newC, hN]
  have e2 : hL (newC h sp) (hN h + 1) j = 0 := by simp [hL, newC, hN]
  have e3 : hR (newC h sp) (hN h + 1) j = 0 := by simp [hR, newC, hN]
  unfold fvl dfl
  rw [e1, e2, e3]
  rfl
def dfOK (ci : Nat) : Bool := match vwCl[ci]? with
  | some q => (List.range q.2.2).all (fun j => decide (defaultValue ((parseFieldDescriptor (q.2.1 j).2.2.1).getD .int) = dfl (kd ci j)))
  | none => false
section MakeRows
variable {G : GP} {l : Launch} {M : MD} {pc : Nat} {ls : List (Option AV)} {st : List AV} {h : AH} {uc us : Nat} {K : Option AV → AH → Prop}
/-- behind a cell that was made -/
theorem Go.made {p : Program} {e : Env} {s : State} {m : MethodId} {args : Array Value} {below : List Frame} {meth : Method} {c : Code} {ad : Nat → Nat} {A : Nat → Prop} {locs : List Loc} {la : Array Slot} {pc' n : Nat} {sp : Nat ⊕ (Nat × Nat)} {q : Nat} {H1 : Heap} (E : EV M p s m args meth c) (hA : ∀ q, s.heap.size ≤ q → A q) (hx : XT G A s s.heap) (hl : LV ad la (mdL M) ls) (hok : okO (hN h) ls ∧ okV (hN h) st) (hc : uc + 1 ≤ (mdR M).cells)
    (hw1 : Wd G (adN ad (hN h) q) (newC h sp) A s H1) (hS1 : va_S A s.heap H1 locs) (kk : Go G l M pc' ls (vR (hN h + 1) :: st) (newC h sp) (uc + 1) (us + n) K) : W p l e (mdR M) s m args below meth c H1 locs (uc + 1) (us + n) (MQ below (Qs G ((mdR M).cells - uc) ad h A K) args s (mdR M).cells (mdR M).slots A) (F0 m pc' la (.ref q :: st.map (cv ad))) := by
  have hl' : LV (adN ad (hN h) q) la (mdL M) ls := ⟨hl.1, hl.2.1, fun i a hi => by rw [okO.eq adN_E i a hok.1 hi]; exact hl.2.2 i a hi⟩
  have k1 := kk p e s m args below meth c (adN ad (hN h) q) A H1 locs la E hA hw1 hx hS1 hl'
  have e1 : (vR (hN h + 1) :: st).map (cv (adN ad (hN h) q)) = .ref q :: st.map (cv ad) := by
    rw [List.map_cons, okV.eq adN_E hok.2, cv_ref (by omega)]
    simp [adN]
  rw [e1] at k1
  refine W.mono (fun t z => MQ.mono (fun o t' y => ?_) z) k1
  obtain ⟨⟨r2, h2, ad2, q1, q2, q3, q4, q5, q6⟩, q7⟩ := y
  have hn : hN (newC h sp) = hN h + 1 := rfl
  rw [hn] at q3 q4 q5
  exact ⟨⟨r2, h2, ad2, q1, q2, by omega, by omega, adN_E.tr q5 (by omega) q3, q6⟩, q7⟩
theorem Go.new {i ci : Nat} {q : vw_C} (hdg : decode (mdB M) pc = .ok (.new i, 3)) (hq : vwCl[ci]? = some q) (hcl : Cond.classLink (mdN M).cls i q.1 ∈ lw_ok) (hin : Cond.instantiable q.1 q.2.2 ∈ lw_ok) (hini : Cond.initialized q.1 ∈ lw_ok) (hdf : dfOK ci = true) (hc : uc + 1 ≤ (mdR M).cells) (hs : us + q.2.2 ≤ (mdR M).slots) (hxn : hN h + 1 < xh) (hok : okO (hN h) ls ∧ okV (hN h) st)
    (kk : Go G l M (pc + 3) ls (vR (hN h + 1) :: st) (newC h (.inl ci)) (uc + 1) (us + q.2.2) K) : Go G l M pc ls st h uc us K := by
  intro p e s m args below meth c ad A H locs la E hA hw hx hS hl
  have hts := E.2.2.2.2.2.1
  obtain ⟨C, T, N⟩ := q
  refine va_new (C := C) (T := T) (N := N) (ci := ci) (fs := (List.range (nfl ci)).map (fun j => dfl (kd ci j))) E.1 E.2.1 hts (coAll ci _ hq).1 _ (coAll ci _ hq).2.1 E.2.2.2.2.1 (hts _ hcl) (hts _ hin) (hts _ hini) hw.2.1 hw.1 hw.2.2.1 hS hA hq ?_ hc hs hdg (fun q0 H1 hP1 hD1 hS1 => ?_)
  · intro j hj
    unfold dfOK at hdf
    rw [hq] at hdf
    have := of_decide_eq_true (List.all_eq_true.mp hdf j (List.mem_range.mpr hj))
    rw [this]
    have hj' : j < nfl ci := by rw [nfl_of hq]; exact hj
    simp [vp_V, List.getD_eq_getElem?_getD, List.getElem?_map, List.getElem?_range hj']
  · refine Go.made E hA hx hl hok hc (hw.newC hxn ?_ hP1 hD1) hS1 kk
    simp only [ent, sh_newC]
    congr 2
    apply List.map_congr_left
    intro j _
    exact fv_newC
/-- rows of numbers: int 0, long 1, boolean 2 -/
def atyp (t : Nat) : ArrayType := if t = 0 then .int else if t = 1 then .long else .boolean
def ftyp (t : Nat) : FieldType := if t = 0 then .int else if t = 1 then .long else .boolean
theorem Go.newarray {t n : Nat} (ht : t < 3) (hdg : decode (mdB M) pc = .ok (.newarray (atyp t), 2)) (hcl : Cond.arrayClass (ftyp t) ∈ lw_ok) (hn : n ≤ 65536) (hc : uc + 1 ≤ (mdR M).cells) (hs : us + n ≤ (mdR M).slots) (hxn : hN h + 1 < xh) (hok : okO (hN h) ls ∧ okV (hN h) st)
    (kk : Go G l M (pc + 2) ls (vR (hN h + 1) :: st) (newC h (.inr (t, n))) (uc + 1) (us + n) K) : Go G l M pc ls (vI (nI n) :: st) h uc us K := by
  intro p e s m args below meth c ad A H locs la E hA hw hx hS hl
  have hts := E.2.2.2.2.2.1
  have hsn := sh_newC (h := h) (sp := .inr (t, n))
  have e1 : hI (newC h (.inr (t, n))) (hN h + 1) = fun _ => 0 := by funext j; simp [hI, newC, hN]
  have e2 : hL (newC h (.inr (t, n))) (hN h + 1) = fun _ => 0 := by funext j; simp [hL, newC, hN]
  have h0 : ¬ nI n < 0 := nI_pos (by omega)
  have h1 : (nI n).toNatClampNeg = n := nI_clamp (by omega)
  have key : ∀ (ty : FieldType), (gT G)[t]? = some (gA G t, ty) → (∀ U c1 c2, va_RA U c1 ty → va_RA U c2 ty → c1 = c2) → ∀ (q : Nat) (cA : ClassId) (H1 : Heap) (a0 : vp_A), (ent G (adN ad (hN h) q) (newC h (.inr (t, n))) (hN h + 1) = .inl (gA G t, a0)) → va_K (gD G) vwCl (gT G ++ [(cA, ty)]) s → va_P (gD G) vwCl (wl G ad h ++ [(q, .inl (cA, a0))]) H1 → va_D A (wl G ad h ++ [(q, .inl (cA, a0))]) → va_S A s.heap H1 locs → W p l e (mdR M) s m args below meth c H1 locs (uc + 1) (us + n) (MQ below (Qs G ((mdR M).cells - uc) ad h A K) args s (mdR M).cells (mdR M).slots A) (F0 m (pc + 2) la (.ref q :: st.map (cv ad))) := by
    intro ty hty huniq q cA H1 a0 hent hK1 hP1 hD1 hS1
    have r1 := (hK1.2 (gT G).length (cA, ty) (by simp)).2
    have r2 := (hw.2.1.2 t (gA G t, ty) hty).2
    have : cA = gA G t := huniq s _ _ r1 r2
    subst this
    exact Go.made E hA hx hl hok hc (hw.newC hxn hent hP1 hD1) hS1 kk
  rcases (show t = 0 ∨ t = 1 ∨ t = 2 by omega) with rfl | rfl | rfl
  · refine va_newa (atype := .int) (ty := .int) (a0 := (n, .inl (fun _ => 0))) E.1 E.2.1 (hts _ hcl) rfl hw.2.1 hw.1 hw.2.2.1 hS hA (fun cA => rfl) h0 h1 (by simp [componentBytes]; omega) hc hs hdg (fun q cA H1 hK1 hP1 hD1 hS1 => ?_)
    exact key .int rfl (fun U c1 c2 a b => Option.some.inj (a.symm.trans b)) q cA H1 _ (by rw [ent_ar hsn, e1]; rfl) hK1 hP1 hD1 hS1
  · refine va_newa (atype := .long) (ty := .long) (a0 := (n, .inr (.inl (fun _ => 0)))) E.1 E.2.1 (hts _ hcl) rfl hw.2.1 hw.1 hw.2.2.1 hS hA (fun cA => rfl) h0 h1 (by simp [componentBytes]; omega) hc hs hdg (fun q cA H1 hK1 hP1 hD1 hS1 => ?_)
    exact key .long rfl (fun U c1 c2 a b => Option.some.inj (a.symm.trans b)) q cA H1 _ (by rw [ent_ar hsn, e2]; rfl) hK1 hP1 hD1 hS1
  · refine va_newa (atype := .boolean) (ty := .boolean) (a0 := (n, .inl (fun _ => 0))) E.1 E.2.1 (hts _ hcl) rfl hw.2.1 hw.1 hw.2.2.1 hS hA (fun cA => rfl) h0 h1 (by simp [componentBytes]; omega) hc hs hdg (fun q cA H1 hK1 hP1 hD1 hS1 => ?_)
    exact key .boolean rfl (fun U c1 c2 a b => Option.some.inj (a.symm.trans b)) q cA H1 _ (by rw [ent_ar hsn, e1]; rfl) hK1 hP1 hD1 hS1
/-- rows of references: scenes 3, boxes 4 -/
def rtyp (t : Nat) : String := if t = 3 then "SettledDots$Scene" else "SettledDots$Box"
theorem Go.anewarray {i t n : Nat} (ht : t = 3 ∨ t = 4) (hdg : decode (mdB M) pc = .ok (.anewarray i, 3)) (hcl : Cond.classLink (mdN M).cls i (rtyp t) ∈ lw_ok) (hn : n ≤ 65536) (hc : uc + 1 ≤ (mdR M).cells) (hs : us + n ≤ (mdR M).slots) (hxn : hN h + 1 < xh) (hok : okO (hN h) ls ∧ okV (hN h) st)
    (kk : Go G l M (pc + 3) ls (vR (hN h + 1) :: st) (newC h (.inr (t, n))) (uc + 1) (us + n) K) : Go G l M pc ls (vI (nI n) :: st) h uc us K := by
  intro p e s m args below meth c ad A H locs la E hA hw hx hS hl
  have hts := E.2.2.2.2.2.1
  have hsn := sh_newC (h := h) (sp := .inr (t, n))
  have e3 : hR (newC h (.inr (t, n))) (hN h + 1) = fun _ => 0 := by funext j; simp [hR, newC, hN]
  have h0 : ¬ nI n < 0 := nI_pos (by omega)
  have h1 : (nI n).toNatClampNeg = n := nI_clamp (by omega)
  have hover : va_AO (rtyp t) s := by
    rcases ht with rfl | rfl
    · exact hx.2.2.2.2.2.2.2.2.2.2.1
    · exact hx.2.2.2.2.2.2.2.2.2.2.2
  have hty : (gT G)[t]? = some (gA G t, .object (rtyp t)) := by rcases ht with rfl | rfl <;> rfl
  refine va_newq E.1 E.2.1 E.2.2.2.2.1 (hts _ hcl) hover hw.2.1 hw.1 hw.2.2.1 hS hA h0 h1 (by omega) hc hs hdg (fun q cA H1 hK1 hP1 hD1 hS1 => ?_)
  have r1 := (hK1.2 (gT G).length (cA, .object (rtyp t)) (by simp)).2
  have r2 := (hw.2.1.2 t (gA G t, .object (rtyp t)) hty).2
  have : cA = gA G t := by
    obtain ⟨_, _, _, _, _, a⟩ := r1
    obtain ⟨_, _, _, _, _, b⟩ := r2
    exact Option.some.inj (a.symm.trans b)
  subst this
  refine Go.made E hA hx hl hok hc (hw.newC hxn ?_ hP1 hD1) hS1 kk
  rw [ent_ar hsn, e3]
  have t1 : ¬ t = 1 := by omega
  have t2 : ¬ t < 3 := by omega
  simp [t1, t2, hd]
theorem Go.objInit {i b : Nat} (hdg : decode (mdB M) pc = .ok (.invokespecial i, 3)) (h0 : 0 < b) (hlk : Cond.methodLink (mdN M).cls i Lib.objectInit ∈ lw_ok) (hin : Cond.instanceMethod Lib.objectInit ∈ lw_ok) (hco : Cond.code Lib.objectInit ⟨#[0xb1]⟩ 1 none ∈ lw_ok) (hf : 1 ≤ (mdR M).frames) (hlo : (st.map (fun a => if isL a then 2 else 1)).sum + 12 ≤ (mdR M).locals) (kk : Go G l M (pc + 3) ls st h uc us K) : Go G l M pc ls (vR b :: st) h uc us K := by
  intro p e s m args below meth c ad A H locs la E hA hw hx hS hl
  have hts := E.2.2.2.2.2.1
  simp only [List.map_cons, cv_ref h0]
  refine W.objInit E.1 E.2.1 E.2.2.2.2.1 (hts _ hlk) (hts _ hin) (hts _ hco) rfl (hl.1.trans E.2.2.2.1.symm) rfl hdg hf ?_ (kk p e s m args below meth c ad A H locs la E hA hw hx hS hl)
  rw [List.map_map]
  have : ((fun v : Value => v.category) ∘ cv ad) = fun a => if isL a then 2 else 1 := funext fun a => cat_cv ad a
  rw [this]
  show 2 * 0 + _ + 12 ≤ _
  omega
/-- a row copied: places sp .. of one to dp .. of another -/
theorem Go.arraycopy {i a b na nb : Nat} {sp dp n : Int32} (hdg : decode (mdB M) pc = .ok (.invokestatic i, 3)) (hlk : Cond.methodLink (mdN M).cls i arraycopyName ∈ lw_ok) (hnat : Cond.native arraycopyName ∈ lw_ok) (hst : Cond.static arraycopyName ∈ lw_ok) (hini : Cond.initialized "java/lang/System" ∈ lw_ok) (hf : 1 ≤ (mdR M).frames) (hlo : (st.map (fun a => if isL a then 2 else 1)).sum + (nativeFrameWords "java/lang/System" "arraycopy" 5 + 11) ≤ (mdR M).locals)
    (ha : Ar h a 0 na) (hb : Ar h b 0 nb) (h1 : ¬ sp < 0) (h2 : ¬ dp < 0) (h3 : ¬ n < 0) (h4 : ix sp + ix n ≤ na) (h5 : ix dp + ix n ≤ nb)
    (kk : Go G l M (pc + 3) ls st (rowI h b (va_cpy (hI h a) (hI h b) (ix sp) (ix dp) (ix n))) uc us K) : Go G l M pc ls (vI n :: vI dp :: vR b :: vI sp :: vR a :: st) h uc us K := by
  intro p e s m args below meth c ad A H locs la E hA hw hx hS hl
  have hts := E.2.2.2.2.2.1
  simp only [List.map_cons, cv_ref ha.1, cv_ref hb.1]
  refine va_copyi (ty := .int) E.1 E.2.1 (E.2.2.2.1.trans hl.1.symm) E.2.2.2.2.1 (hts _ hlk) (hts _ hnat) (hts _ hst) (hts _ hini) hw.2.1 hw.1 hw.2.2.1 hS (a - 1) (b - 1) 0 0 (Wd.ar ha) (Wd.ar hb) (gT_at G).1 (gT_at G).1 rfl h1 h2 h3 h4 h5 (fun _ _ => rfl) hf ?_ hdg (fun H1 locs1 hP1 hD1 hS1 => ?_)
  · rw [List.map_map]
    have : ((fun v : Value => v.category) ∘ cv ad) = fun a => if isL a then 2 else 1 := funext fun a => cat_cv ad a
    rw [this]
    exact hlo
  · refine kk p e s m args below meth c ad A H1 locs1 la E hA (hw.upd (k := b) rfl hb.1 hb.2.1 (fun k' z => ?_) ?_ hw.2.2.2.2.2 hP1 hD1) hx hS1 hl
    · have e : hI (rowI h b (va_cpy (hI h a) (hI h b) (ix sp) (ix dp) (ix n))) k' = hI h k' := by simp [hI, rowI, z]
      unfold ent fvl
      simp only [e]
      rfl
    · rw [ent_ar (h := rowI h b (va_cpy (hI h a) (hI h b) (ix sp) (ix dp) (ix n))) (t := 0) (n := nb) hb.2.2]
      have e : hI (rowI h b (va_cpy (hI h a) (hI h b) (ix sp) (ix dp) (ix n))) b = va_cpy (hI h a) (hI h b) (ix sp) (ix dp) (ix n) := by simp [hI, rowI]
      simp only [e]
      rfl
theorem Go.sload {i : Int32} (hdg : decode (mdB M) pc = .ok (.iaload, 1)) (hi : vp_in i G.2.2.2.2.2.2.1) (kk : Go G l M (pc + 1) ls (vI (G.2.2.2.2.2.2.2 (ix i)) :: st) h uc us K) : Go G l M pc ls (vI i :: vR (xh + 9) :: st) h uc us K := by
  intro p e s m args below meth c ad A H locs la E hA hw hx hS hl
  simp only [List.map_cons, cv_ref (show 0 < xh + 9 by omega), hw.2.2.2.2.1.2.2.2]
  exact va_sld E.1 E.2.1 hx.2.2.2.2.2.2.1 hx.2.2.2.2.2.2.2.1 hx.2.2.2.2.2.2.2.2.1 hS hi hdg (kk p e s m args below meth c ad A H locs la E hA hw hx hS hl)
theorem Go.slen (hdg : decode (mdB M) pc = .ok (.arraylength, 1)) (kk : Go G l M (pc + 1) ls (vI (nI G.2.2.2.2.2.2.1) :: st) h uc us K) : Go G l M pc ls (vR (xh + 9) :: st) h uc us K := by
  intro p e s m args below meth c ad A H locs la E hA hw hx hS hl
  simp only [List.map_cons, cv_ref (show 0 < xh + 9 by omega), hw.2.2.2.2.1.2.2.2]
  exact va_slen E.1 E.2.1 hx.2.2.2.2.2.2.1 hx.2.2.2.2.2.2.2.1 hx.2.2.2.2.2.2.2.2.1 hS hdg (kk p e s m args below meth c ad A H locs la E hA hw hx hS hl)
theorem Go.ldcS {i j : Nat} (hcl : (mdN M).cls = "SettledDots$Reader") (hdg : decode (mdB M) pc = .ok (.ldc i, 2)) (hj : (i = 50 ∧ j = 0) ∨ (i = 75 ∧ j = 1) ∨ (i = 80 ∧ j = 2)) (kk : Go G l M (pc + 2) ls (vR (xh + j) :: st) h uc us K) : Go G l M pc ls st h uc us K := by
  intro p e s m args below meth c ad A H locs la E hA hw hx hS hl
  have k1 := kk p e s m args below meth c ad A H locs la E hA hw hx hS hl
  rw [List.map_cons, cv_ref (show 0 < xh + j by unfold xh; omega)] at k1
  have hown := E.2.2.2.2.1
  rw [hcl] at hown
  rcases hj with ⟨rfl, rfl⟩ | ⟨rfl, rfl⟩ | ⟨rfl, rfl⟩
  · rw [show ad (xh + 0) = G.2.2.2.1 0 from hw.2.2.2.2.1.1] at k1
    exact va_ldcS E.1 E.2.1 hown hx.2.1 hdg k1
  · rw [hw.2.2.2.2.1.2.1] at k1
    exact va_ldcS E.1 E.2.1 hown hx.2.2.1 hdg k1
  · rw [hw.2.2.2.2.1.2.2.1] at k1
    exact va_ldcS E.1 E.2.1 hown hx.2.2.2.1 hdg k1
end MakeRows
end
section
/-! ===== the walk as a formula ===== -/
def pI (st : List AV) (f : Int32 → List AV → Prop) : Prop := match st with
  | .inl x :: r => f x r
  | _ => False
def pL (st : List AV) (f : Int64 → List AV → Prop) : Prop := match st with
  | .inr (.inl x) :: r => f x r
  | _ => False
def pR (st : List AV) (f : Nat → List AV → Prop) : Prop := match st with
  | .inr (.inr x) :: r => f x r
  | _ => False
def pII (st : List AV) (f : Int32 → Int32 → List AV → Prop) : Prop := match st with
  | .inl y :: .inl x :: r => f x y r
  | _ => False
def pLL (st : List AV) (f : Int64 → Int64 → List AV → Prop) : Prop := match st with
  | .inr (.inl y) :: .inr (.inl x) :: r => f x y r
  | _ => False
def pA (st : List AV) (f : AV → List AV → Prop) : Prop := match st with
  | a :: r => match isL a with
    | false => f a r
    | true => False
  | _ => False
def gl : List (Option AV) → Nat → Option AV
  | [], _ => none
  | a :: _, 0 => a
  | _ :: l, n + 1 => gl l n
theorem gl_at : ∀ {ls : List (Option AV)} {i : Nat} {a : AV}, gl ls i = some a → ls[i]? = some (some a)
  | [], i, a, h => by simp [gl] at h
  | b :: ls, 0, a, h => by simp only [gl] at h; subst h; rfl
  | b :: ls, i + 1, a, h => by simp only [gl] at h; simpa using gl_at h
def lI (o : Option AV) (f : Int32 → Prop) : Prop := match o with
  | some (.inl x) => f x
  | _ => False
def lL (o : Option AV) (f : Int64 → Prop) : Prop := match o with
  | some (.inr (.inl x)) => f x
  | _ => False
def lR (o : Option AV) (f : Nat → Prop) : Prop := match o with
  | some (.inr (.inr x)) => f x
  | _ => False
/-- a store, by its place -/
def unL (o : Option AV) : Option AV := match o with
  | some (.inr (.inl _)) => none
  | o => o
def nx (l : List (Option AV)) : List (Option AV) := match l with
  | [] => []
  | _ :: l => none :: l
def sF : List (Option AV) → Nat → AV → List (Option AV)
  | [], _, _ => []
  | _ :: l, 0, .inr (.inl x) => some (.inr (.inl x)) :: nx l
  | _ :: l, 0, a => some a :: l
  | o :: l, 1, a => unL o :: sF l 0 a
  | o :: l, n + 2, a => o :: sF l (n + 1) a
theorem nx_get {l : List (Option AV)} {j : Nat} {b : AV} (h : (nx l)[j]? = some (some b)) : l[j]? = some (some b) ∧ j ≠ 0 := by
  cases l with
  | nil => simp [nx] at h
  | cons o l =>
    cases j with
    | zero => simp [nx] at h
    | succ j => simp only [nx, List.getElem?_cons_succ] at h ⊢; exact ⟨h, by omega⟩
theorem sF_get : ∀ (ls : List (Option AV)) (i j : Nat) (a b : AV), (sF ls i a)[j]? = some (some b) → (sto ls i a)[j]? = some (some b)
  | [], i, j, a, b, h => by simp [sF] at h
  | o :: l, 0, j, a, b, h => by
    rcases a with x | x | x
    · simpa [sF, sto, isL, cutL] using h
    · simp only [sF] at h
      simp only [sto, isL, cutL, if_true, List.set_cons_zero, List.set_cons_succ]
      cases j with
      | zero => simpa using h
      | succ j =>
        simp only [List.getElem?_cons_succ] at h ⊢
        obtain ⟨h1, h2⟩ := nx_get h
        rw [List.getElem?_set_ne (by omega)]
        exact h1
    · simpa [sF, sto, isL, cutL] using h
  | o :: l, 1, j, a, b, h => by
    simp only [sF] at h
    cases j with
    | zero =>
      simp only [List.getElem?_cons_zero] at h
      have h1 : unL o = some b := Option.some.inj h
      have h2 : o = some b ∧ isL b = false := by
        rcases o with _ | x | x | x
        · simp [unL] at h1
        · simp only [unL] at h1; injection h1 with h1; subst h1; exact ⟨rfl, rfl⟩
        · simp [unL] at h1
        · simp only [unL] at h1; injection h1 with h1; subst h1; exact ⟨rfl, rfl⟩
      obtain ⟨rfl, hb⟩ := h2
      have : cutL (some b :: l) 1 = some b :: l := by simp [cutL, offL, hb]
      unfold sto
      rw [this]
      split <;> simp
    | succ j =>
      simp only [List.getElem?_cons_succ] at h
      have := sF_get l 0 j a b h
      unfold sto at this ⊢
      simp only [cutL] at this ⊢
      have e : ∃ o', (if offL (o :: l)[0]? = true then (o :: l).set 0 none else o :: l) = o' :: l := by
        split
        · exact ⟨none, by simp⟩
        · exact ⟨o, rfl⟩
      obtain ⟨o', e⟩ := e
      rw [e]
      split at this
      · rename_i ha; simp only [ha, if_true, List.set_cons_succ, List.getElem?_cons_succ]; simpa using this
      · rename_i ha; simp only [ha, List.set_cons_succ, List.getElem?_cons_succ]; simpa using this
  | o :: l, n + 2, j, a, b, h => by
    simp only [sF] at h
    have e : cutL (o :: l) (n + 2) = o :: cutL l (n + 1) := by
      simp only [cutL, List.getElem?_cons_succ]
      split <;> simp
    cases j with
    | zero =>
      simp only [List.getElem?_cons_zero] at h
      unfold sto
      rw [e]
      split <;> simpa using h
    | succ j =>
      simp only [List.getElem?_cons_succ] at h
      have := sF_get l (n + 1) j a b h
      unfold sto at this ⊢
      rw [e]
      split at this
      · rename_i ha; simp only [ha, if_true, List.set_cons_succ, List.getElem?_cons_succ]; simpa using this
      · rename_i ha; simp only [ha, List.set_cons_succ, List.getElem?_cons_succ]; simpa using this
/-- words of the operand stack below a call -/
def szS : List AV → Nat
  | [] => 0
  | .inr (.inl _) :: r => szS r + 2
  | _ :: r => szS r + 1
theorem szS_eq : ∀ st : List AV, (st.map (fun a => if isL a then 2 else 1)).sum = szS st
  | [] => rfl
  | .inl x :: r => by rw [List.map_cons, List.sum_cons, szS_eq r]; show 1 + szS r = szS r + 1; omega
  | .inr (.inl x) :: r => by rw [List.map_cons, List.sum_cons, szS_eq r]; show 2 + szS r = szS r + 2; omega
  | .inr (.inr x) :: r => by rw [List.map_cons, List.sum_cons, szS_eq r]; show 1 + szS r = szS r + 1; omega
/-- the n arguments on top, the first one first -/
def pAs : Nat → List AV → List AV → (List AV → List AV → Prop) → Prop
  | 0, as, st, f => f as st
  | n + 1, as, a :: st, f => pAs n (a :: as) st f
  | _ + 1, _, [], _ => False
theorem pAs_of : ∀ (n : Nat) (as st : List AV) (f : List AV → List AV → Prop), pAs n as st f → ∃ bs r, st = bs.reverse ++ r ∧ bs.length = n ∧ f (bs ++ as) r
  | 0, as, st, f, h => ⟨[], st, rfl, rfl, h⟩
  | n + 1, as, [], f, h => h.elim
  | n + 1, as, a :: st, f, h => by
    obtain ⟨bs, r, h1, h2, h3⟩ := pAs_of n (a :: as) st f h
    refine ⟨bs ++ [a], r, ?_, by simp [h2], by simpa using h3⟩
    rw [h1]; simp
def swt (x : Int32) : List (Int32 × Nat) → Nat → (Nat → Prop) → Prop
  | [], d, f => f d
  | (v, t) :: r, d, f => (x = v → f t) ∧ (¬ x = v → swt x r d f)
def selT (x : Int32) : List (Int32 × Nat) → Nat → Nat
  | [], d => d
  | (v, t) :: r, d => if x = v then t else selT x r d
theorem swt_sel {x : Int32} : ∀ {tb : List (Int32 × Nat)} {d : Nat} {f : Nat → Prop}, swt x tb d f → f (selT x tb d)
  | [], d, f, h => h
  | (v, t) :: r, d, f, h => by
    simp only [selT]
    by_cases hx : x = v
    · rw [if_pos hx]; exact h.1 hx
    · rw [if_neg hx]; exact swt_sel (h.2 hx)
def b8 (n : Nat) (p : Prop) : Prop := match Nat.ble n 8 with
  | true => p
  | false => False
theorem b8.of {n : Nat} {p : Prop} (h : b8 n p) : n ≤ 8 ∧ p := by
  unfold b8 at h
  split at h
  · rename_i e; exact ⟨Nat.le_of_ble_eq_true e, h⟩
  · exact h.elim
/-- the answer of a call, by its kind -/
def rV (f : AH → Prop) : Option AV → AH → Prop := fun r h => match r with
  | none => f h
  | _ => False
def rI (f : Int32 → AH → Prop) : Option AV → AH → Prop := fun r h => match r with
  | some (.inl x) => f x h
  | _ => False
def rL (f : Int64 → AH → Prop) : Option AV → AH → Prop := fun r h => match r with
  | some (.inr (.inl x)) => f x h
  | _ => False
def rR (f : Nat → AH → Prop) : Option AV → AH → Prop := fun r h => match r with
  | some (.inr (.inr x)) => f x h
  | _ => False
def rk (tb : List (Int32 × Nat)) : Nat := match tb with
  | q :: _ => q.2
  | [] => 0
def rC (t : Nat) (f : List AV → AH → Prop) : Option AV → AH → Prop := match t with
  | 0 => rV (fun h => f [] h)
  | 1 => rI (fun x h => f [vI x] h)
  | 2 => rL (fun x h => f [vL x] h)
  | _ => rR (fun x h => f [vR x] h)
theorem rC_of {t : Nat} {f : List AV → AH → Prop} {r : Option AV} {h : AH} (q : rC t f r h) : f r.toList h := by
  unfold rC at q
  split at q
  · unfold rV at q; split at q
    · exact q
    · exact q.elim
  · unfold rI at q; split at q
    · exact q
    · exact q.elim
  · unfold rL at q; split at q
    · exact q
    · exact q.elim
  · unfold rR at q; split at q
    · exact q
    · exact q.elim
def fvt (t : Nat) (h : AH) (k j : Nat) : AV := match t with
  | 1 => vL (hL h k j)
  | 2 => vR (hR h k j)
  | _ => vI (hI h k j)
def mdf (x y : Int32) : Int32 := if (x ^^^ y) < 0 ∧ ¬ x - x / y * y = 0 then x - x / y * y + y else x - x / y * y
/-- one instruction: k is asked of what comes next, K of the answer -/
def stp (G : GP) (l : Launch) (r : Row) (ls : List (Option AV)) (st : List AV) (h : AH) (k : Nat → List (Option AV) → List AV → AH → Prop) (K : Option AV → AH → Prop) : Prop := match r with
  | (pc, _, ins, a, b, t, _, v, tb) => match ins with
    | .iadd => pII st (fun x y st => k (pc + 1) ls (vI (x + y) :: st) h)
    | .isub => pII st (fun x y st => k (pc + 1) ls (vI (x - y) :: st) h)
    | .imul => pII st (fun x y st => k (pc + 1) ls (vI (x * y) :: st) h)
    | .iand => pII st (fun x y st => k (pc + 1) ls (vI (x &&& y) :: st) h)
    | .ior => pII st (fun x y st => k (pc + 1) ls (vI (x ||| y) :: st) h)
    | .ixor => pII st (fun x y st => k (pc + 1) ls (vI (x ^^^ y) :: st) h)
    | .ishl => pII st (fun x y st => k (pc + 1) ls (vI (x <<< (y &&& 31)) :: st) h)
    | .ishr => pII st (fun x y st => k (pc + 1) ls (vI (x >>> (y &&& 31)) :: st) h)
    | .idiv => pII st (fun x y st => ¬ y = 0 ∧ k (pc + 1) ls (vI (x / y) :: st) h)
    | .irem => pII st (fun x y st => ¬ y = 0 ∧ k (pc + 1) ls (vI (x - x / y * y) :: st) h)
    | .ladd => pLL st (fun x y st => k (pc + 1) ls (vL (x + y) :: st) h)
    | .lsub => pLL st (fun x y st => k (pc + 1) ls (vL (x - y) :: st) h)
    | .lmul => pLL st (fun x y st => k (pc + 1) ls (vL (x * y) :: st) h)
    | .land => pLL st (fun x y st => k (pc + 1) ls (vL (x &&& y) :: st) h)
    | .lor => pLL st (fun x y st => k (pc + 1) ls (vL (x ||| y) :: st) h)
    | .ldiv => pLL st (fun x y st => ¬ y = 0 ∧ k (pc + 1) ls (vL (x / y) :: st) h)
    | .lrem => pLL st (fun x y st => ¬ y = 0 ∧ k (pc + 1) ls (vL (x - x / y * y) :: st) h)
    | .ineg => pI st (fun x st => k (pc + 1) ls (vI (-x) :: st) h)
    | .i2l => pI st (fun x st => k (pc + 1) ls (vL x.toInt64 :: st) h)
    | .l2i => pL st (fun x st => k (pc + 1) ls (vI x.toInt32 :: st) h)
    | .lshl => pI st (fun y st => pL st (fun x st => k (pc + 1) ls (vL (x <<< (y.toInt64 &&& 63)) :: st) h))
    | .lcmp => pLL st (fun x y st => k (pc + 1) ls (vI (lg_cmp x y) :: st) h)
    | .iconst _ => k (pc + 1) ls (vI v :: st) h
    | .bipush _ => k (pc + 2) ls (vI v :: st) h
    | .sipush _ => k (pc + 3) ls (vI v :: st) h
    | .lconst _ => k (pc + 1) ls (vL (Int64.ofNat a) :: st) h
    | .ldc2_w _ => k (pc + 3) ls (vL (Int64.ofNat a) :: st) h
    | .ldc _ => match t with
      | 0 => k (pc + 2) ls (vI v :: st) h
      | _ => k (pc + 2) ls (vR (xh + b) :: st) h
    | .ldc_w _ => k (pc + 3) ls (vI v :: st) h
    | .goto _ => k a ls st h
    | .dup => pA st (fun x st => k (pc + 1) ls (x :: x :: st) h)
    | .pop => pA st (fun _ st => k (pc + 1) ls st h)
    | .dup2 => pA st (fun x st => pA st (fun y st => k (pc + 1) ls (x :: y :: x :: y :: st) h))
    | .iload i => lI (gl ls i) (fun x => k (pc + 2) ls (vI x :: st) h)
    | .iload_n n => lI (gl ls n.val) (fun x => k (pc + 1) ls (vI x :: st) h)
    | .lload i => lL (gl ls i) (fun x => k (pc + 2) ls (vL x :: st) h)
    | .lload_n n => lL (gl ls n.val) (fun x => k (pc + 1) ls (vL x :: st) h)
    | .aload i => lR (gl ls i) (fun x => k (pc + 2) ls (vR x :: st) h)
    | .aload_n n => lR (gl ls n.val) (fun x => k (pc + 1) ls (vR x :: st) h)
    | .istore i => pI st (fun x st => k (pc + 2) (sF ls i (vI x)) st h)
    | .istore_n n => pI st (fun x st => k (pc + 1) (sF ls n.val (vI x)) st h)
    | .lstore i => pL st (fun x st => k (pc + 2) (sF ls i (vL x)) st h)
    | .lstore_n n => pL st (fun x st => k (pc + 1) (sF ls n.val (vL x)) st h)
    | .astore i => pR st (fun x st => k (pc + 2) (sF ls i (vR x)) st h)
    | .astore_n n => pR st (fun x st => k (pc + 1) (sF ls n.val (vR x)) st h)
    | .iinc i _ => lI (gl ls i) (fun x => k (pc + 3) (sF ls i (vI (x + v))) st h)
    | .getfield _ => pR st (fun o st => Ob h o a ∧ k (pc + 3) ls (fvt t h o b :: st) h)
    | .putfield _ => match t with
      | 0 => pI st (fun x st => pR st (fun o st => Ob h o a ∧ k (pc + 3) ls st (setI h o b x)))
      | 1 => pL st (fun x st => pR st (fun o st => Ob h o a ∧ k (pc + 3) ls st (setL h o b x)))
      | 2 => pR st (fun x st => pR st (fun o st => Ob h o a ∧ 0 < x ∧ x ≤ hN h ∧ k (pc + 3) ls st (setR h o b x)))
      | _ => pI st (fun x st => pR st (fun o st => Ob h o a ∧ (x = 0 ∨ x = 1) ∧ k (pc + 3) ls st (setI h o b x)))
    | .iaload => match t with
      | 0 => pI st (fun i st => pR st (fun o st => InA h o 0 i ∧ k (pc + 1) ls (vI (hI h o (ix i)) :: st) h))
      | _ => pI st (fun i st => pR st (fun o st => o = xh + 9 ∧ vp_in i G.2.2.2.2.2.2.1 ∧ k (pc + 1) ls (vI (G.2.2.2.2.2.2.2 (ix i)) :: st) h))
    | .baload => pI st (fun i st => pR st (fun o st => InA h o 2 i ∧ k (pc + 1) ls (vI (hI h o (ix i)) :: st) h))
    | .laload => pI st (fun i st => pR st (fun o st => InA h o 1 i ∧ k (pc + 1) ls (vL (hL h o (ix i)) :: st) h))
    | .aaload => pI st (fun i st => pR st (fun o st => InA h o t i ∧ k (pc + 1) ls (vR (hR h o (ix i)) :: st) h))
    | .iastore => pI st (fun x st => pI st (fun i st => pR st (fun o st => InA h o 0 i ∧ k (pc + 1) ls st (setI h o (ix i) x))))
    | .bastore => pI st (fun x st => pI st (fun i st => pR st (fun o st => InA h o 2 i ∧ (x = 0 ∨ x = 1) ∧ k (pc + 1) ls st (setI h o (ix i) x))))
    | .lastore => pL st (fun x st => pI st (fun i st => pR st (fun o st => InA h o 1 i ∧ k (pc + 1) ls st (setL h o (ix i) x))))
    | .aastore => pR st (fun x st => pI st (fun i st => pR st (fun o st => InA h o t i ∧ Ob h x a ∧ k (pc + 1) ls st (setR h o (ix i) x))))
    | .arraylength => match t with
      | 0 => pR st (fun o st => ∃ ty n, ty < 5 ∧ Ar h o ty n ∧ k (pc + 1) ls (vI (nI n) :: st) h)
      | _ => pR st (fun o st => o = xh + 9 ∧ k (pc + 1) ls (vI (nI G.2.2.2.2.2.2.1) :: st) h)
    | .tableswitch _ _ _ _ => pI st (fun x st => swt x tb a (fun tgt => k tgt ls st h))
    | .lookupswitch _ _ => pI st (fun x st => swt x tb a (fun tgt => k tgt ls st h))
    | .invokevirtual _ => match Nat.blt t 50 with
      | true => pAs b [] st (fun as st => pR st (fun o st => b8 (szS st) (Ob h o t ∧ Spec G l (mt a) (vR o :: as) h (rC (rk tb) (fun r h => k (pc + 3) ls (r ++ st) h)))))
      | false => pAs b [] st (fun as st => pR st (fun o st => b8 (szS st) ((o = xh ∨ o = xh + 1 ∨ o = xh + 2) ∧ Spec G l (mt a) (vR o :: as) h (rC (rk tb) (fun r h => k (pc + 3) ls (r ++ st) h)))))
    | .invokestatic _ => match t with
      | 2 => pI st (fun n st => pI st (fun dp st => pR st (fun d st => pI st (fun sp st => pR st (fun s st => b8 (szS st) (∃ na nb, Ar h s 0 na ∧ Ar h d 0 nb ∧ ¬ sp < 0 ∧ ¬ dp < 0 ∧ ¬ n < 0 ∧ ix sp + ix n ≤ na ∧ ix dp + ix n ≤ nb ∧ k (pc + 3) ls st (rowI h d (va_cpy (hI h s) (hI h d) (ix sp) (ix dp) (ix n)))))))))
      | 3 => pII st (fun x y st => b8 (szS st) (k (pc + 3) ls (vI (if y < x then y else x) :: st) h))
      | 4 => pII st (fun x y st => b8 (szS st) (k (pc + 3) ls (vI (if x < y then y else x) :: st) h))
      | 5 => pI st (fun x st => b8 (szS st) (k (pc + 3) ls (vI (if 0 ≤ x then x else 0 - x) :: st) h))
      | _ => pAs b [] st (fun as st => b8 (szS st) (Spec G l (mt a) as h (rC (rk tb) (fun r h => k (pc + 3) ls (r ++ st) h))))
    | .ireturn => match t with
      | 0 => match st with
        | [.inl x] => K (some (vI x)) h
        | _ => False
      | _ => match st with
        | [.inl x] => (x = 0 ∨ x = 1) ∧ K (some (vI x)) h
        | _ => False
    | .lreturn => match st with
      | [.inr (.inl x)] => K (some (vL x)) h
      | _ => False
    | .areturn => match st with
      | [.inr (.inr x)] => K (some (vR x)) h
      | _ => False
    | .return_ => match st with
      | [] => K none h
      | _ => False
    | .ifCond .eq _ => pI st (fun x st => (x = 0 → k a ls st h) ∧ (¬ x = 0 → k (pc + 3) ls st h))
    | .if_icmp .eq _ => pII st (fun x y st => (x = y → k a ls st h) ∧ (¬ x = y → k (pc + 3) ls st h))
    | .ifCond .ne _ => pI st (fun x st => (¬ x = 0 → k a ls st h) ∧ (x = 0 → k (pc + 3) ls st h))
    | .if_icmp .ne _ => pII st (fun x y st => (¬ x = y → k a ls st h) ∧ (x = y → k (pc + 3) ls st h))
    | .ifCond .lt _ => pI st (fun x st => (x < 0 → k a ls st h) ∧ (¬ x < 0 → k (pc + 3) ls st h))
    | .if_icmp .lt _ => pII st (fun x y st => (x < y → k a ls st h) ∧ (¬ x < y → k (pc + 3) ls st h))
    | .ifCond .ge _ => pI st (fun x st => (0 ≤ x → k a ls st h) ∧ (¬ 0 ≤ x → k (pc + 3) ls st h))
    | .if_icmp .ge _ => pII st (fun x y st => (y ≤ x → k a ls st h) ∧ (¬ y ≤ x → k (pc + 3) ls st h))
    | .ifCond .gt _ => pI st (fun x st => (0 < x → k a ls st h) ∧ (¬ 0 < x → k (pc + 3) ls st h))
    | .if_icmp .gt _ => pII st (fun x y st => (y < x → k a ls st h) ∧ (¬ y < x → k (pc + 3) ls st h))
    | .ifCond .le _ => pI st (fun x st => (x ≤ 0 → k a ls st h) ∧ (¬ x ≤ 0 → k (pc + 3) ls st h))
    | .if_icmp .le _ => pII st (fun x y st => (x ≤ y → k a ls st h) ∧ (¬ x ≤ y → k (pc + 3) ls st h))
    | _ => False
def rpc (r : Row) : Nat := r.1
def seek (t : Nat) : List Row → List Row
  | [] => []
  | r :: rs => match Nat.beq r.1 t with
    | true => r :: rs
    | false => seek t rs
def hdp (rs : List Row) (t : Nat) : Bool := match rs with
  | r :: _ => Nat.beq r.1 t
  | [] => false
def isCut : List (Nat × Nat) → Nat → Option Nat
  | [], _ => none
  | c :: cs, t => match Nat.beq c.1 t with
    | true => some c.2
    | false => isCut cs t
/-- the first n locals alone -/
def cutN : List (Option AV) → Nat → List (Option AV)
  | [], _ => []
  | _ :: l, 0 => none :: cutN l 0
  | a :: l, n + 1 => a :: cutN l n
theorem cutN_get : ∀ (ls : List (Option AV)) (n i : Nat) (a : AV), (cutN ls n)[i]? = some (some a) → ls[i]? = some (some a)
  | [], n, i, a, h => by simp [cutN] at h
  | o :: l, 0, 0, a, h => by simp [cutN] at h
  | o :: l, 0, i + 1, a, h => by
    simp only [cutN, List.getElem?_cons_succ] at h ⊢
    exact cutN_get l 0 i a h
  | o :: l, n + 1, 0, a, h => by simpa [cutN] using h
  | o :: l, n + 1, i + 1, a, h => by
    simp only [cutN, List.getElem?_cons_succ] at h ⊢
    exact cutN_get l n i a h
/-- at most n instructions from the first of the rows; at a cut, Go itself -/
def wp (G : GP) (l : Launch) (m : Nat) (C : List Row) (cuts : List (Nat × Nat)) (K : Option AV → AH → Prop) : Nat → List Row → List (Option AV) → List AV → AH → Prop
  | n + 1, r :: rest, ls, st, h => stp G l r ls st h (fun t ls st h => match isCut cuts t with
      | some c => Go G l (mt m) t (cutN ls c) st h 0 0 K
      | none => match hdp rest t with
        | true => wp G l m C cuts K n rest ls st h
        | false => wp G l m C cuts K n (seek t C) ls st h) K
  | _, _, _, _, _ => False
end
section
/-! ===== the walk's formula is right ===== -/
theorem pI.of {st : List AV} {f : Int32 → List AV → Prop} (h : pI st f) : ∃ x r, st = vI x :: r ∧ f x r := by
  unfold pI at h; split at h
  · exact ⟨_, _, rfl, h⟩
  · exact h.elim
theorem pL.of {st : List AV} {f : Int64 → List AV → Prop} (h : pL st f) : ∃ x r, st = vL x :: r ∧ f x r := by
  unfold pL at h; split at h
  · exact ⟨_, _, rfl, h⟩
  · exact h.elim
theorem pR.of {st : List AV} {f : Nat → List AV → Prop} (h : pR st f) : ∃ x r, st = vR x :: r ∧ f x r := by
  unfold pR at h; split at h
  · exact ⟨_, _, rfl, h⟩
  · exact h.elim
theorem pII.of {st : List AV} {f : Int32 → Int32 → List AV → Prop} (h : pII st f) : ∃ x y r, st = vI y :: vI x :: r ∧ f x y r := by
  unfold pII at h; split at h
  · exact ⟨_, _, _, rfl, h⟩
  · exact h.elim
theorem pLL.of {st : List AV} {f : Int64 → Int64 → List AV → Prop} (h : pLL st f) : ∃ x y r, st = vL y :: vL x :: r ∧ f x y r := by
  unfold pLL at h; split at h
  · exact ⟨_, _, _, rfl, h⟩
  · exact h.elim
theorem pA.of {st : List AV} {f : AV → List AV → Prop} (h : pA st f) : ∃ x r, st = x :: r ∧ isL x = false ∧ f x r := by
  unfold pA at h; split at h
  · split at h
    · rename_i e; exact ⟨_, _, rfl, e, h⟩
    · exact h.elim
  · exact h.elim
theorem lI.of {o : Option AV} {f : Int32 → Prop} (h : lI o f) : ∃ x, o = some (vI x) ∧ f x := by
  unfold lI at h; split at h
  · exact ⟨_, rfl, h⟩
  · exact h.elim
theorem lL.of {o : Option AV} {f : Int64 → Prop} (h : lL o f) : ∃ x, o = some (vL x) ∧ f x := by
  unfold lL at h; split at h
  · exact ⟨_, rfl, h⟩
  · exact h.elim
theorem lR.of {o : Option AV} {f : Nat → Prop} (h : lR o f) : ∃ x, o = some (vR x) ∧ f x := by
  unfold lR at h; split at h
  · exact ⟨_, rfl, h⟩
  · exact h.elim
theorem dec_of {m pc len : Nat} {ins : Instr} {b : Bool} (h : ((match decode (mdB (mt m)) pc with
    | .ok (i, n) => decide (i = ins) && Nat.beq n len
    | _ => false) && b) = true) : decode (mdB (mt m)) pc = .ok (ins, len) ∧ b = true := by
  rw [Bool.and_eq_true] at h
  refine ⟨?_, h.2⟩
  have h1 := h.1
  split at h1
  · rename_i i n e
    rw [Bool.and_eq_true, decide_eq_true_eq] at h1
    rw [e, h1.1, Nat.eq_of_beq_eq_true h1.2]
  · cases h1
theorem mcl_of {m : Nat} (h : m < 293) : (mdN (mt m)).cls = cnm (mcn m) := of_decide_eq_true (List.all_eq_true.mp mclok m (List.mem_range.mpr h))
theorem fl_of {pl : Nat} {q : Nat × Nat × Nat × Nat × Nat × Nat × Nat} (h : flt[pl]? = some q) : flOK q = true := List.all_eq_true.mp flok q (List.mem_of_getElem? h)
theorem ml_of {pl : Nat} {q : Nat × Nat × Nat × Nat × Nat} (h : mlt[pl]? = some q) : mlOK q = true := List.all_eq_true.mp mlok q (List.mem_of_getElem? h)
theorem fl_link {pl o i a b t : Nat} (h : (flt[pl]?).map (fun q => (q.1, q.2.1, q.2.2.1, q.2.2.2.1, q.2.2.2.2.1)) = some (o, i, a, b, t)) : ∃ q : vw_C, vwCl[a]? = some q ∧ b < q.2.2 ∧ kd a b = t ∧ Cond.fieldLink (cnm o) i (q.2.1 b).1 (q.2.1 b).2.1 (q.2.1 b).2.2.1 ∈ lw_ok ∧ (t = 2 → rfT (q.2.1 b).2.2.1 = true) := by
  cases e : flt[pl]? with
  | none => rw [e] at h; simp at h
  | some q =>
    rw [e] at h
    obtain ⟨q1, q2, q3, q4, q5, q6, q7⟩ := q
    simp only [Option.map_some, Option.some.injEq, Prod.mk.injEq] at h
    obtain ⟨rfl, rfl, rfl, rfl, rfl⟩ := h
    have h1 := fl_of e
    unfold flOK at h1
    dsimp only at h1
    cases e2 : vwCl[q3]? with
    | none => rw [e2] at h1; simp at h1
    | some r =>
      rw [e2] at h1
      simp only [Bool.and_eq_true, decide_eq_true_eq] at h1
      obtain ⟨g1, g2, g3, g4, g5⟩ := h1
      refine ⟨r, rfl, g1, ?_, wIs.mem g3, fun z => ?_⟩
      · rw [kd_of e2]; exact g2
      · subst z
        simpa using g5
theorem fl_fin {pl o i a b t : Nat} (h : (flt[pl]?).map (fun q => (q.1, q.2.1, q.2.2.1, q.2.2.2.1, q.2.2.2.2.1, q.2.2.2.2.2.2)) = some (o, i, a, b, t, 0)) : (flt[pl]?).map (fun q => (q.1, q.2.1, q.2.2.1, q.2.2.2.1, q.2.2.2.2.1)) = some (o, i, a, b, t) ∧ ∀ q : vw_C, vwCl[a]? = some q → (q.2.1 b).2.2.2 = false := by
  cases e : flt[pl]? with
  | none => rw [e] at h; simp at h
  | some q =>
    rw [e] at h
    obtain ⟨q1, q2, q3, q4, q5, q6, q7⟩ := q
    simp only [Option.map_some, Option.some.injEq, Prod.mk.injEq] at h
    obtain ⟨rfl, rfl, rfl, rfl, rfl, rfl⟩ := h
    refine ⟨rfl, fun r hr => ?_⟩
    have h1 := fl_of e
    unfold flOK at h1
    dsimp only at h1
    rw [hr] at h1
    simp only [Bool.and_eq_true, decide_eq_true_eq] at h1
    exact h1.2.2.2.1
theorem ml_link {pl o i a n : Nat} (h : (mlt[pl]?).map (fun q => (q.1, q.2.1, q.2.2.1, q.2.2.2.1)) = some (o, i, a, n)) : (n = 0 → Cond.methodLink (cnm o) i (mdN (mt a)) ∈ lw_ok) ∧ (¬ n = 0 → Cond.methodLinkNest (cnm o) i (mdN (mt a)) "SettledDots" ∈ lw_tbl) := by
  cases e : mlt[pl]? with
  | none => rw [e] at h; simp at h
  | some q =>
    rw [e] at h
    obtain ⟨q1, q2, q3, q4, q5⟩ := q
    simp only [Option.map_some, Option.some.injEq, Prod.mk.injEq] at h
    obtain ⟨rfl, rfl, rfl, rfl⟩ := h
    have h1 := ml_of e
    unfold mlOK at h1
    dsimp only at h1
    refine ⟨fun z => ?_, fun z => ?_⟩
    · rw [if_pos z] at h1; exact wIs.mem h1
    · rw [if_neg z] at h1; exact wIn.mem h1
theorem cl_link {pl o i : Nat} {v : Int32} (h : (clt[pl]?).map (fun q => (q.1, q.2.1, q.2.2.1)) = some (o, i, v)) : Cond.constant (cnm o) i v ∈ lw_ok := by
  cases e : clt[pl]? with
  | none => rw [e] at h; simp at h
  | some q =>
    rw [e] at h
    obtain ⟨q1, q2, q3, q4⟩ := q
    simp only [Option.map_some, Option.some.injEq, Prod.mk.injEq] at h
    obtain ⟨rfl, rfl, rfl⟩ := h
    exact wIs.mem (List.all_eq_true.mp clok _ (List.mem_of_getElem? e))
theorem dl_link {pl o i a : Nat} (h : (dlt[pl]?).map (fun q => (q.1, q.2.1, q.2.2.1)) = some (o, i, a)) : Cond.constantLong (cnm o) i (Int64.ofNat a) ∈ lw_ok := by
  cases e : dlt[pl]? with
  | none => rw [e] at h; simp at h
  | some q =>
    rw [e] at h
    obtain ⟨q1, q2, q3, q4⟩ := q
    simp only [Option.map_some, Option.some.injEq, Prod.mk.injEq] at h
    obtain ⟨rfl, rfl, rfl⟩ := h
    exact wIs.mem (List.all_eq_true.mp dlok _ (List.mem_of_getElem? e))
theorem ac_link {pl o i : Nat} (h : (act[pl]?).map (fun q => (q.1, q.2.1)) = some (o, i)) : Cond.methodLink (cnm o) i arraycopyName ∈ lw_ok := by
  cases e : act[pl]? with
  | none => rw [e] at h; simp at h
  | some q =>
    rw [e] at h
    obtain ⟨q1, q2, q3⟩ := q
    simp only [Option.map_some, Option.some.injEq, Prod.mk.injEq] at h
    obtain ⟨rfl, rfl⟩ := h
    exact wIs.mem (List.all_eq_true.mp acok _ (List.mem_of_getElem? e))
theorem mt_ok {a : Nat} (h : a < 293) (hk : (mtK a).1 < 9) : mOK (mt a) (mtK a) = true := by
  have key : ∀ (n o : Nat), ((List.range n).map (· + o)).all (fun a => mtK a == (9, 0, 0, 0, 0, 0) || mOK (mt a) (mtK a)) = true → o ≤ a → a < o + n → mOK (mt a) (mtK a) = true := by
    intro n o hall h1 h2
    have := List.all_eq_true.mp hall a (List.mem_map.mpr ⟨a - o, List.mem_range.mpr (by omega), by omega⟩)
    rw [Bool.or_eq_true] at this
    rcases this with z | z
    · rw [eq_of_beq z] at hk; simp at hk
    · exact z
  by_cases q0 : a < 8
  · exact key 8 0 mtok_0 (by omega) (by omega)
  by_cases q8 : a < 16
  · exact key 8 8 mtok_8 (by omega) (by omega)
  by_cases q16 : a < 24
  · exact key 8 16 mtok_16 (by omega) (by omega)
  by_cases q24 : a < 32
  · exact key 8 24 mtok_24 (by omega) (by omega)
  by_cases q32 : a < 40
  · exact key 8 32 mtok_32 (by omega) (by omega)
  by_cases q40 : a < 48
  · exact key 8 40 mtok_40 (by omega) (by omega)
  by_cases q48 : a < 56
  · exact key 8 48 mtok_48 (by omega) (by omega)
  by_cases q56 : a < 64
  · exact key 8 56 mtok_56 (by omega) (by omega)
  by_cases q64 : a < 72
  · exact key 8 64 mtok_64 (by omega) (by omega)
  by_cases q72 : a < 80
  · exact key 8 72 mtok_72 (by omega) (by omega)
  by_cases q80 : a < 88
  · exact key 8 80 mtok_80 (by omega) (by omega)
  by_cases q88 : a < 96
  · exact key 8 88 mtok_88 (by omega) (by omega)
  by_cases q96 : a < 104
  · exact key 8 96 mtok_96 (by omega) (by omega)
  by_cases q104 : a < 112
  · exact key 8 104 mtok_104 (by omega) (by omega)
  by_cases q112 : a < 120
  · exact key 8 112 mtok_112 (by omega) (by omega)
  by_cases q120 : a < 128
  · exact key 8 120 mtok_120 (by omega) (by omega)
  by_cases q128 : a < 136
  · exact key 8 128 mtok_128 (by omega) (by omega)
  by_cases q136 : a < 144
  · exact key 8 136 mtok_136 (by omega) (by omega)
  by_cases q144 : a < 152
  · exact key 8 144 mtok_144 (by omega) (by omega)
  by_cases q152 : a < 160
  · exact key 8 152 mtok_152 (by omega) (by omega)
  by_cases q160 : a < 168
  · exact key 8 160 mtok_160 (by omega) (by omega)
  by_cases q168 : a < 176
  · exact key 8 168 mtok_168 (by omega) (by omega)
  by_cases q176 : a < 184
  · exact key 8 176 mtok_176 (by omega) (by omega)
  by_cases q184 : a < 192
  · exact key 8 184 mtok_184 (by omega) (by omega)
  by_cases q192 : a < 200
  · exact key 8 192 mtok_192 (by omega) (by omega)
  by_cases q200 : a < 208
  · exact key 8 200 mtok_200 (by omega) (by omega)
  by_cases q208 : a < 216
  · exact key 8 208 mtok_208 (by omega) (by omega)
  by_cases q216 : a < 224
  · exact key 8 216 mtok_216 (by omega) (by omega)
  by_cases q224 : a < 232
  · exact key 8 224 mtok_224 (by omega) (by omega)
  by_cases q232 : a < 240
  · exact key 8 232 mtok_232 (by omega) (by omega)
  by_cases q240 : a < 248
  · exact key 8 240 mtok_240 (by omega) (by omega)
  by_cases q248 : a < 256
  · exact key 8 248 mtok_248 (by omega) (by omega)
  by_cases q256 : a < 264
  · exact key 8 256 mtok_256 (by omega) (by omega)
  by_cases q264 : a < 272
  · exact key 8 264 mtok_264 (by omega) (by omega)
  by_cases q272 : a < 280
  · exact key 8 272 mtok_272 (by omega) (by omega)
  by_cases q280 : a < 288
  · exact key 8 280 mtok_280 (by omega) (by omega)
  exact key 5 288 mtok_288 (by omega) (by omega)
theorem mt_MOK {a : Nat} (h : a < 293) (hk : (mtK a).1 < 9) : MOK (mt a) (mtK a).2.1 ∧ plainFor (mdN (mt a)) = true := by
  have h1 := mt_ok h hk
  unfold mOK at h1
  simp only [Bool.and_eq_true, decide_eq_true_eq] at h1
  obtain ⟨g1, g2, g3, g4, g5, g6, -⟩ := h1
  exact ⟨⟨wIs.mem g1, wIs.mem g2, g3, g4, g5⟩, g6⟩
theorem mt_V {a : Nat} (h : a < 293) (hk : (mtK a).1 = 0) : MOKv (mt a) := by
  have h1 := mt_ok h (by omega)
  unfold mOK at h1
  simp only [Bool.and_eq_true, decide_eq_true_eq, hk, if_true] at h1
  obtain ⟨-, -, -, -, -, -, g7, g8⟩ := h1
  exact ⟨wIs.mem g7, wIs.mem g8⟩
theorem mt_S {a : Nat} (h : a < 293) (hk : (mtK a).1 = 1) : Cond.static (mdN (mt a)) ∈ lw_ok := by
  have h1 := mt_ok h (by omega)
  unfold mOK at h1
  simp only [Bool.and_eq_true, decide_eq_true_eq, hk] at h1
  obtain ⟨-, -, -, -, -, -, g7⟩ := h1
  exact wIs.mem (by simpa using g7)
theorem rmB_of {N M : MD} (h : rmB N M = true) {st : List AV} (h8 : szS st ≤ 8) : rmOK N M 0 0 st ∧ (mdR N).cells = 0 ∧ (mdR N).slots = 0 := by
  unfold rmB at h
  simp only [Bool.and_eq_true] at h
  obtain ⟨g1, g2, g3, g4⟩ := h
  have g3 := Nat.eq_of_beq_eq_true g3
  have g4 := Nat.eq_of_beq_eq_true g4
  exact ⟨⟨⟨Nat.le_of_ble_eq_true g1, Nat.le_of_ble_eq_true g2⟩, by omega, by omega, by rw [szS_eq]; exact h8⟩, g3, g4⟩
theorem Go.zero {G : GP} {l : Launch} {M : MD} {pc : Nat} {ls : List (Option AV)} {st : List AV} {h : AH} {K : Option AV → AH → Prop} {a b : Nat} (ha : a = 0) (hb : b = 0) (q : Go G l M pc ls st h 0 0 K) : Go G l M pc ls st h (0 + a) (0 + b) K := by subst ha; subst hb; exact q
theorem Go.sF {G : GP} {l : Launch} {M : MD} {pc i : Nat} {a : AV} {ls : List (Option AV)} {st : List AV} {h : AH} {K : Option AV → AH → Prop} (q : Go G l M pc (sF ls i a) st h 0 0 K) : Go G l M pc (sto ls i a) st h 0 0 K := q.forget (fun j b z => sF_get ls i j a b z)
theorem fvt_fav {h : AH} {k ci j t : Nat} (hk : kd ci j = t) : fvt t h k j = fav h k ci j := by
  unfold fav fvt
  rw [hk]
  split <;> simp_all
theorem ts_sel {pc : Nat} {x : Int32} : ∀ (i : Nat) (offs : List Int) (tb : List (Int32 × Nat)) (d : Nat), tsOK pc i offs tb = true → i + tb.length < 2000 → ((x.toInt < i ∨ (i : Int) + tb.length ≤ x.toInt) ∧ selT x tb d = d) ∨ (∃ j off, j < tb.length ∧ x.toInt = (i : Int) + j ∧ offs[j]? = some off ∧ (pc : Int) + off = (selT x tb d : Int))
  | i, [], [], d, _, _ => by
    left
    refine ⟨?_, rfl⟩
    simp only [List.length_nil]
    omega
  | i, [], _ :: _, d, h, _ => by simp [tsOK] at h
  | i, _ :: _, [], d, h, _ => by simp [tsOK] at h
  | i, off :: offs, (v, t) :: tb, d, h, hb => by
    simp only [tsOK, Bool.and_eq_true, decide_eq_true_eq] at h
    obtain ⟨h1, h2, h3⟩ := h
    have hb' : i + 1 + tb.length < 2000 := by simp only [List.length_cons] at hb; omega
    have hi : (nI i).toInt = (i : Int) := nI_toInt (by omega)
    simp only [selT, List.length_cons]
    subst h1
    by_cases hx : x = nI i
    · right
      rw [if_pos hx]
      exact ⟨0, off, by omega, by rw [hx, hi]; omega, rfl, h2⟩
    · rw [if_neg hx]
      have hne : x.toInt ≠ i := fun z => hx (Int32.toInt_inj.mp (z.trans hi.symm))
      rcases ts_sel (x := x) (i + 1) offs tb d h3 hb' with ⟨g1, g2⟩ | ⟨j, off', g1, g2, g3, g4⟩
      · left
        refine ⟨?_, g2⟩
        rcases g1 with g | g
        · left; omega
        · right; omega
      · right
        exact ⟨j + 1, off', by omega, by rw [g2]; omega, by simpa using g3, g4⟩
theorem ls_sel {pc : Nat} {x : Int32} {dd : Int} : ∀ (ps : List (Int × Int)) (tb : List (Int32 × Nat)) (d : Nat), lsOK pc ps tb = true → (pc : Int) + dd = (d : Int) → (pc : Int) + Op.lookupswitch.offset ps dd x.toInt = (selT x tb d : Int)
  | [], [], d, _, hd => by simpa [selT, Op.lookupswitch.offset] using hd
  | [], _ :: _, d, h, _ => by simp [lsOK] at h
  | _ :: _, [], d, h, _ => by simp [lsOK] at h
  | (p1, p2) :: ps, (v, t) :: tb, d, h, hd => by
    simp only [lsOK, Bool.and_eq_true, decide_eq_true_eq] at h
    obtain ⟨h1, h2, h3⟩ := h
    simp only [selT]
    by_cases hx : x = v
    · rw [if_pos hx, Op.lookupswitch.offset_cons, if_pos (by rw [hx, h1])]
      exact h2
    · rw [if_neg hx, lv_osw hx h1]
      exact ls_sel ps tb d h3 hd
section StpOk
variable {G : GP} {l : Launch} {m : Nat} {ls : List (Option AV)} {st : List AV} {h : AH} {k : Nat → List (Option AV) → List AV → AH → Prop} {K : Option AV → AH → Prop}
theorem Go.tswitch {M : MD} {pc a len : Nat} {d : Int} {lo hi : Int} {offs : Array Int} {tb : List (Int32 × Nat)} {x : Int32} (hdg : decode (mdB M) pc = .ok (.tableswitch d lo hi offs, len)) (hlo : lo = 0) (hhi : hi + 1 = (tb.length : Int)) (hlen : tb.length < 1000) (hd : (pc : Int) + d = (a : Int)) (ht : tsOK pc 0 offs.toList tb = true) (kk : Go G l M (selT x tb a) ls st h 0 0 K) : Go G l M pc ls (vI x :: st) h 0 0 K := by
  intro p e s mm args below meth c ad A H locs la E hA hw hx hS hl
  have k1 := kk p e s mm args below meth c ad A H locs la E hA hw hx hS hl
  subst hlo
  rcases ts_sel (x := x) 0 offs.toList tb a ht (by omega) with ⟨g1, g2⟩ | ⟨j, off, g1, g2, g3, g4⟩
  · rw [g2] at k1
    exact lv_tableOut E.1 E.2.1 hdg (by rcases g1 with g | g <;> omega) hd k1
  · refine lv_tableIn E.1 E.2.1 hdg (by omega) (by omega) (off := off) ?_ g4 k1
    have : (x.toInt - 0).toNat = j := by omega
    rw [this]
    simpa using g3
theorem Go.lswitch {M : MD} {pc a len : Nat} {d : Int} {ps : Array (Int × Int)} {tb : List (Int32 × Nat)} {x : Int32} (hdg : decode (mdB M) pc = .ok (.lookupswitch d ps, len)) (hs : (ps.toList.zip (ps.toList.drop 1)).all (fun (a, next) => a.1 < next.1) = true) (hd : (pc : Int) + d = (a : Int)) (ht : lsOK pc ps.toList tb = true) (kk : Go G l M (selT x tb a) ls st h 0 0 K) : Go G l M pc ls (vI x :: st) h 0 0 K := by
  intro p e s mm args below meth c ad A H locs la E hA hw hx hS hl
  exact lv_lookup E.1 E.2.1 hdg hs rfl (ls_sel ps.toList tb a ht hd) (kk p e s mm args below meth c ad A H locs la E hA hw hx hS hl)
theorem rmX_of {M : MD} (h : rmX M = true) : 1 ≤ (mdR M).frames ∧ 26 ≤ (mdR M).locals := by
  unfold rmX at h
  simp only [Bool.and_eq_true] at h
  exact ⟨Nat.le_of_ble_eq_true h.1, Nat.le_of_ble_eq_true h.2⟩
theorem rmY_of {M : MD} (h : rmY M = true) : 1 ≤ (mdR M).frames ∧ 21 ≤ (mdR M).locals := by
  unfold rmY at h
  simp only [Bool.and_eq_true] at h
  exact ⟨Nat.le_of_ble_eq_true h.1, Nat.le_of_ble_eq_true h.2⟩
end StpOk
end
section
/-! ===== every step is right ===== -/
theorem wa_nat : Cond.native arraycopyName ∈ lw_ok := wIs.mem (i := 9083) (by decide +kernel)
theorem wa_st : Cond.static arraycopyName ∈ lw_ok := wIs.mem (i := 9082) (by decide +kernel)
theorem wa_in : Cond.initialized "java/lang/System" ∈ lw_ok := wIs.mem (i := 7017) (by decide +kernel)
theorem wm_in : Cond.initialized "java/lang/Math" ∈ lw_ok := wIs.mem (i := 7018) (by decide +kernel)
theorem wm_min_s : Cond.static Lib.Math.min.name ∈ lw_ok := wIs.mem (i := 9211) (by decide +kernel)
theorem wm_min_c : Cond.code Lib.Math.min.name Lib.Math.min.code 2 (some .int) ∈ lw_ok := wIs.mem (i := 9212) (by decide +kernel)
theorem wm_min_n : mdN (mt mJm_min) = Lib.Math.min.name := by decide +kernel
theorem wm_max_s : Cond.static Lib.Math.max.name ∈ lw_ok := wIs.mem (i := 10096) (by decide +kernel)
theorem wm_max_c : Cond.code Lib.Math.max.name Lib.Math.max.code 2 (some .int) ∈ lw_ok := wIs.mem (i := 10097) (by decide +kernel)
theorem wm_max_n : mdN (mt mJm_max) = Lib.Math.max.name := by decide +kernel
theorem wm_abs_s : Cond.static Lib.Math.abs.name ∈ lw_ok := wIs.mem (i := 10093) (by decide +kernel)
theorem wm_abs_c : Cond.code Lib.Math.abs.name Lib.Math.abs.code 1 (some .int) ∈ lw_ok := wIs.mem (i := 10094) (by decide +kernel)
theorem wm_abs_n : mdN (mt mJm_abs) = Lib.Math.abs.name := by decide +kernel
section MathRows
variable {G : GP} {l : Launch} {M : MD} {pc : Nat} {ls : List (Option AV)} {st : List AV} {h : AH} {K : Option AV → AH → Prop}
theorem rs8 {ad : Nat → Nat} {st : List AV} (h : szS st ≤ 8) : ((st.map (cv ad)).map fun v => v.category).sum ≤ 8 := rest8 (by rw [szS_eq]; exact h)
theorem Go.mmin {i : Nat} {x y : Int32} (hdg : decode (mdB M) pc = .ok (.invokestatic i, 3)) (hlk : Cond.methodLink (mdN M).cls i Lib.Math.min.name ∈ lw_ok) (hr : 1 ≤ (mdR M).frames ∧ 21 ≤ (mdR M).locals) (h8 : szS st ≤ 8) (kk : Go G l M (pc + 3) ls (vI (if y < x then y else x) :: st) h 0 0 K) : Go G l M pc ls (vI y :: vI x :: st) h 0 0 K := by
  intro p e s mm args below meth c ad A H locs la E hA hw hx hS hl
  have hts := E.2.2.2.2.2.1
  exact va_mmin E.1 E.2.1 (E.2.2.2.1.trans hl.1.symm) E.2.2.2.2.1 (hts _ hlk) (hts _ wm_min_s) (hts _ wm_in) (hts _ wm_min_c) hr.1 (by have := rs8 (ad := ad) h8; omega) (by omega) (by omega) hdg (kk p e s mm args below meth c ad A H locs la E hA hw hx hS hl)
theorem Go.mmax {i : Nat} {x y : Int32} (hdg : decode (mdB M) pc = .ok (.invokestatic i, 3)) (hlk : Cond.methodLink (mdN M).cls i Lib.Math.max.name ∈ lw_ok) (hr : 1 ≤ (mdR M).frames ∧ 21 ≤ (mdR M).locals) (h8 : szS st ≤ 8) (kk : Go G l M (pc + 3) ls (vI (if x < y then y else x) :: st) h 0 0 K) : Go G l M pc ls (vI y :: vI x :: st) h 0 0 K := by
  intro p e s mm args below meth c ad A H locs la E hA hw hx hS hl
  have hts := E.2.2.2.2.2.1
  exact va_mmax E.1 E.2.1 (E.2.2.2.1.trans hl.1.symm) E.2.2.2.2.1 (hts _ hlk) (hts _ wm_max_s) (hts _ wm_in) (hts _ wm_max_c) hr.1 (by have := rs8 (ad := ad) h8; omega) (by omega) (by omega) hdg (kk p e s mm args below meth c ad A H locs la E hA hw hx hS hl)
theorem Go.mabs {i : Nat} {x : Int32} (hdg : decode (mdB M) pc = .ok (.invokestatic i, 3)) (hlk : Cond.methodLink (mdN M).cls i Lib.Math.abs.name ∈ lw_ok) (hr : 1 ≤ (mdR M).frames ∧ 21 ≤ (mdR M).locals) (h8 : szS st ≤ 8) (kk : Go G l M (pc + 3) ls (vI (if 0 ≤ x then x else 0 - x) :: st) h 0 0 K) : Go G l M pc ls (vI x :: st) h 0 0 K := by
  intro p e s mm args below meth c ad A H locs la E hA hw hx hS hl
  have hts := E.2.2.2.2.2.1
  exact va_mabs E.1 E.2.1 (E.2.2.2.1.trans hl.1.symm) E.2.2.2.2.1 (hts _ hlk) (hts _ wm_abs_s) (hts _ wm_in) (hts _ wm_abs_c) hr.1 (by have := rs8 (ad := ad) h8; omega) (by omega) (by omega) hdg (kk p e s mm args below meth c ad A H locs la E hA hw hx hS hl)
/-- a method of a String constant -/
theorem Go.callVS {N : MD} {n i b uc us : Nat} {as : List AV} (hdg : decode (mdB M) pc = .ok (.invokevirtual i, 3)) (hm : MOK N n) (hv : MOKv N) (hlk : Cond.methodLink (mdN M).cls i (mdN N) ∈ lw_ok) (hn : as.length = n) (hcl : (mdN N).cls = "java/lang/String") (ho : b = xh ∨ b = xh + 1 ∨ b = xh + 2) (hr : rmOK N M uc us st) (hok : okLS (hN h) (mdR N).cells ls st)
    (hs : Spec G l N (vR b :: as) h (fun r h' => Go G l M (pc + 3) ls (r.toList ++ st) h' (uc + (mdR N).cells) (us + (mdR N).slots) K)) : Go G l M pc ls (as.reverse ++ vR b :: st) h uc us K := by
  intro p e s m args below meth c ad A H locs la E hA hw hx hS hl
  have hts := E.2.2.2.2.2.1
  have hb0 : 0 < b := by unfold xh at ho; omega
  have hcv : (vR b :: as).map (cv ad) = Value.ref (ad b) :: as.map (cv ad) := by rw [List.map_cons, cv_ref hb0]
  have hM := hs ad H.size
  rw [hcv] at hM
  have hR : ∃ cell : Cell, H[ad b]? = some cell ∧ cell.vm.isStatics = false ∧ s.vm.findClass (mdN N).cls = some cell.cls := by
    rw [hcl]
    have a := hw.2.2.2.2.1
    rcases ho with rfl | rfl | rfl
    · rw [a.1]; exact vk_recv hx.1 (by omega) hS
    · rw [a.2.1]; exact vk_recv hx.1 (by omega) hS
    · rw [a.2.2.1]; exact vk_recv hx.1 (by omega) hS
  have run := va_runV (p := p) (e := e) (below := below) (meth := meth) (locs := locs) (cells := uc) (slots := us) (As := as.map (cv ad)) (rest := st.map (cv ad)) (g := F0 m pc la (((as.reverse ++ vR b :: st)).map (cv ad))) (C := (mdN N).cls) (b := ad b) (H := H) (R := mdR M) ⟨E.1, E.2.1, E.2.2.2.1, E.2.2.2.2.1, hts⟩ hM ⟨hm.callB hts (hts _ hlk) hr.1, hts _ hv.1, hts _ hv.2⟩ ⟨Pc_blind, hR, fun U hU hW => ⟨rfl, hw.pre hx hA hS hU hW⟩⟩ rfl (by simp [hn]) hl.1 (by simp [cv_ref hb0]) (lv_room (rest8 hr.2.2.2)) hdg ⟨hr.2.1, hr.2.2.1⟩
  exact Go.behind run E hA hw hx hS hl hok hr.2.1
end MathRows
set_option maxHeartbeats 4000000 in
theorem stp_ok {G : GP} {l : Launch} {m : Nat} {ls : List (Option AV)} {st : List AV} {h : AH} {k : Nat → List (Option AV) → List AV → AH → Prop} {K : Option AV → AH → Prop} (hm : m < 293) {r : Row} (hr : rowOK m r = true) (hs : stp G l r ls st h k K) (hk : ∀ t ls st h, k t ls st h → Go G l (mt m) t ls st h 0 0 K) : Go G l (mt m) r.1 ls st h 0 0 K := by
  obtain ⟨pc, len, ins, a, b, t, pl, v, tb⟩ := r
  have hc := mcl_of hm
  unfold rowOK at hr
  obtain ⟨hd, hr⟩ := dec_of hr
  show Go G l (mt m) pc ls st h 0 0 K
  cases ins with
  | iadd =>
    obtain rfl := Nat.eq_of_beq_eq_true hr
    obtain ⟨x, y, r, rfl, hs⟩ := pII.of hs
    exact Go.iadd hd (hk _ _ _ _ hs)
  | isub =>
    obtain rfl := Nat.eq_of_beq_eq_true hr
    obtain ⟨x, y, r, rfl, hs⟩ := pII.of hs
    exact Go.isub hd (hk _ _ _ _ hs)
  | imul =>
    obtain rfl := Nat.eq_of_beq_eq_true hr
    obtain ⟨x, y, r, rfl, hs⟩ := pII.of hs
    exact Go.imul hd (hk _ _ _ _ hs)
  | iand =>
    obtain rfl := Nat.eq_of_beq_eq_true hr
    obtain ⟨x, y, r, rfl, hs⟩ := pII.of hs
    exact Go.iand hd (hk _ _ _ _ hs)
  | ior =>
    obtain rfl := Nat.eq_of_beq_eq_true hr
    obtain ⟨x, y, r, rfl, hs⟩ := pII.of hs
    exact Go.ior hd (hk _ _ _ _ hs)
  | ixor =>
    obtain rfl := Nat.eq_of_beq_eq_true hr
    obtain ⟨x, y, r, rfl, hs⟩ := pII.of hs
    exact Go.ixor hd (hk _ _ _ _ hs)
  | ishl =>
    obtain rfl := Nat.eq_of_beq_eq_true hr
    obtain ⟨x, y, r, rfl, hs⟩ := pII.of hs
    exact Go.ishl hd (hk _ _ _ _ hs)
  | ishr =>
    obtain rfl := Nat.eq_of_beq_eq_true hr
    obtain ⟨x, y, r, rfl, hs⟩ := pII.of hs
    exact Go.ishr hd (hk _ _ _ _ hs)
  | idiv =>
    obtain rfl := Nat.eq_of_beq_eq_true hr
    obtain ⟨x, y, r, rfl, hne, hs⟩ := pII.of hs
    exact Go.idiv hd hne (hk _ _ _ _ hs)
  | irem =>
    obtain rfl := Nat.eq_of_beq_eq_true hr
    obtain ⟨x, y, r, rfl, hne, hs⟩ := pII.of hs
    exact Go.irem hd hne (hk _ _ _ _ hs)
  | ladd =>
    obtain rfl := Nat.eq_of_beq_eq_true hr
    obtain ⟨x, y, r, rfl, hs⟩ := pLL.of hs
    exact Go.ladd hd (hk _ _ _ _ hs)
  | lsub =>
    obtain rfl := Nat.eq_of_beq_eq_true hr
    obtain ⟨x, y, r, rfl, hs⟩ := pLL.of hs
    exact Go.lsub hd (hk _ _ _ _ hs)
  | lmul =>
    obtain rfl := Nat.eq_of_beq_eq_true hr
    obtain ⟨x, y, r, rfl, hs⟩ := pLL.of hs
    exact Go.lmul hd (hk _ _ _ _ hs)
  | land =>
    obtain rfl := Nat.eq_of_beq_eq_true hr
    obtain ⟨x, y, r, rfl, hs⟩ := pLL.of hs
    exact Go.land hd (hk _ _ _ _ hs)
  | lor =>
    obtain rfl := Nat.eq_of_beq_eq_true hr
    obtain ⟨x, y, r, rfl, hs⟩ := pLL.of hs
    exact Go.lor hd (hk _ _ _ _ hs)
  | lcmp =>
    obtain rfl := Nat.eq_of_beq_eq_true hr
    obtain ⟨x, y, r, rfl, hs⟩ := pLL.of hs
    exact Go.lcmp hd (hk _ _ _ _ hs)
  | ldiv =>
    obtain rfl := Nat.eq_of_beq_eq_true hr
    obtain ⟨x, y, r, rfl, hne, hs⟩ := pLL.of hs
    exact Go.ldiv hd hne (hk _ _ _ _ hs)
  | lrem =>
    obtain rfl := Nat.eq_of_beq_eq_true hr
    obtain ⟨x, y, r, rfl, hne, hs⟩ := pLL.of hs
    exact Go.lrem hd hne (hk _ _ _ _ hs)
  | ineg =>
    obtain rfl := Nat.eq_of_beq_eq_true hr
    obtain ⟨x, r, rfl, hs⟩ := pI.of hs
    exact Go.ineg hd (hk _ _ _ _ hs)
  | i2l =>
    obtain rfl := Nat.eq_of_beq_eq_true hr
    obtain ⟨x, r, rfl, hs⟩ := pI.of hs
    exact Go.i2l hd (hk _ _ _ _ hs)
  | l2i =>
    obtain rfl := Nat.eq_of_beq_eq_true hr
    obtain ⟨x, r, rfl, hs⟩ := pL.of hs
    exact Go.l2i hd (hk _ _ _ _ hs)
  | lshl =>
    obtain rfl := Nat.eq_of_beq_eq_true hr
    obtain ⟨y, r, rfl, hs⟩ := pI.of hs
    obtain ⟨x, r, rfl, hs⟩ := pL.of hs
    exact Go.lshl hd (hk _ _ _ _ hs)
  | iconst n =>
    simp only [Bool.and_eq_true, decide_eq_true_eq] at hr
    obtain ⟨hv, hr⟩ := hr
    obtain rfl := Nat.eq_of_beq_eq_true hr
    exact Go.iconst hd hv (hk _ _ _ _ hs)
  | bipush n =>
    simp only [Bool.and_eq_true, decide_eq_true_eq] at hr
    obtain ⟨hv, hr⟩ := hr
    obtain rfl := Nat.eq_of_beq_eq_true hr
    exact Go.bipush hd hv (hk _ _ _ _ hs)
  | sipush n =>
    simp only [Bool.and_eq_true, decide_eq_true_eq] at hr
    obtain ⟨hv, hr⟩ := hr
    obtain rfl := Nat.eq_of_beq_eq_true hr
    exact Go.sipush hd hv (hk _ _ _ _ hs)
  | lconst n =>
    simp only [Bool.and_eq_true] at hr
    obtain ⟨hv, hr⟩ := hr
    obtain rfl := Nat.eq_of_beq_eq_true hr
    have hv := Nat.eq_of_beq_eq_true hv
    exact Go.lconst hd (by rw [hv]) (hk _ _ _ _ hs)
  | ldc i =>
    simp only [Bool.and_eq_true] at hr
    obtain ⟨hr, hv⟩ := hr
    obtain rfl := Nat.eq_of_beq_eq_true hr
    match t, hv, hs with
    | 0, hv, hs => exact Go.ldc hd (by rw [hc]; exact cl_link (of_decide_eq_true hv)) (hk _ _ _ _ hs)
    | t + 1, hv, hs =>
      simp only [Bool.and_eq_true, decide_eq_true_eq, Bool.or_eq_true] at hv
      refine Go.ldcS (j := b) (hc.trans hv.1) hd ?_ (hk _ _ _ _ hs)
      rcases hv.2 with z | z | z
      · exact Or.inl ⟨Nat.eq_of_beq_eq_true z.1, Nat.eq_of_beq_eq_true z.2⟩
      · exact Or.inr (Or.inl ⟨Nat.eq_of_beq_eq_true z.1, Nat.eq_of_beq_eq_true z.2⟩)
      · exact Or.inr (Or.inr ⟨Nat.eq_of_beq_eq_true z.1, Nat.eq_of_beq_eq_true z.2⟩)
  | ldc_w i =>
    simp only [Bool.and_eq_true, decide_eq_true_eq] at hr
    obtain ⟨hr, hv⟩ := hr
    obtain rfl := Nat.eq_of_beq_eq_true hr
    exact Go.ldcw hd (by rw [hc]; exact cl_link hv) (hk _ _ _ _ hs)
  | ldc2_w i =>
    simp only [Bool.and_eq_true, decide_eq_true_eq] at hr
    obtain ⟨hr, hv⟩ := hr
    obtain rfl := Nat.eq_of_beq_eq_true hr
    exact Go.ldc2 hd (by rw [hc]; exact dl_link hv) (hk _ _ _ _ hs)
  | goto off =>
    simp only [Bool.and_eq_true, decide_eq_true_eq] at hr
    obtain ⟨hv, hr⟩ := hr
    obtain rfl := Nat.eq_of_beq_eq_true hr
    exact Go.goto hd hv (hk _ _ _ _ hs)
  | dup =>
    obtain rfl := Nat.eq_of_beq_eq_true hr
    obtain ⟨x, r, rfl, hx, hs⟩ := pA.of hs
    exact Go.dup hd hx (hk _ _ _ _ hs)
  | pop =>
    obtain rfl := Nat.eq_of_beq_eq_true hr
    obtain ⟨x, r, rfl, hx, hs⟩ := pA.of hs
    exact Go.pop hd hx (hk _ _ _ _ hs)
  | dup2 =>
    obtain rfl := Nat.eq_of_beq_eq_true hr
    obtain ⟨x, r, rfl, hx, hs⟩ := pA.of hs
    obtain ⟨y, r, rfl, hy, hs⟩ := pA.of hs
    exact Go.dup2 hd hx hy (hk _ _ _ _ hs)
  | iload i =>
    obtain rfl := Nat.eq_of_beq_eq_true hr
    obtain ⟨x, e, hs⟩ := lI.of hs
    exact Go.iload hd (gl_at e) (hk _ _ _ _ hs)
  | iload_n i =>
    obtain rfl := Nat.eq_of_beq_eq_true hr
    obtain ⟨x, e, hs⟩ := lI.of hs
    exact Go.iload_n hd (gl_at e) (hk _ _ _ _ hs)
  | lload i =>
    obtain rfl := Nat.eq_of_beq_eq_true hr
    obtain ⟨x, e, hs⟩ := lL.of hs
    exact Go.lload hd (gl_at e) (hk _ _ _ _ hs)
  | lload_n i =>
    obtain rfl := Nat.eq_of_beq_eq_true hr
    obtain ⟨x, e, hs⟩ := lL.of hs
    exact Go.lload_n hd (gl_at e) (hk _ _ _ _ hs)
  | aload i =>
    obtain rfl := Nat.eq_of_beq_eq_true hr
    obtain ⟨x, e, hs⟩ := lR.of hs
    exact Go.aload hd (gl_at e) (hk _ _ _ _ hs)
  | aload_n i =>
    obtain rfl := Nat.eq_of_beq_eq_true hr
    obtain ⟨x, e, hs⟩ := lR.of hs
    exact Go.aload_n hd (gl_at e) (hk _ _ _ _ hs)
  | istore i =>
    simp only [Bool.and_eq_true] at hr
    obtain ⟨hv, hr⟩ := hr
    obtain rfl := Nat.eq_of_beq_eq_true hr
    have hv := Nat.le_of_ble_eq_true hv
    obtain ⟨x, r, rfl, hs⟩ := pI.of hs
    exact Go.istore hd hv (hk _ _ _ _ hs).sF
  | istore_n i =>
    simp only [Bool.and_eq_true] at hr
    obtain ⟨hv, hr⟩ := hr
    obtain rfl := Nat.eq_of_beq_eq_true hr
    have hv := Nat.le_of_ble_eq_true hv
    obtain ⟨x, r, rfl, hs⟩ := pI.of hs
    exact Go.istore_n hd rfl hv (hk _ _ _ _ hs).sF
  | lstore i =>
    simp only [Bool.and_eq_true] at hr
    obtain ⟨hv, hr⟩ := hr
    obtain rfl := Nat.eq_of_beq_eq_true hr
    have hv := Nat.le_of_ble_eq_true hv
    obtain ⟨x, r, rfl, hs⟩ := pL.of hs
    exact Go.lstore hd hv (hk _ _ _ _ hs).sF
  | lstore_n i =>
    simp only [Bool.and_eq_true] at hr
    obtain ⟨hv, hr⟩ := hr
    obtain rfl := Nat.eq_of_beq_eq_true hr
    have hv := Nat.le_of_ble_eq_true hv
    obtain ⟨x, r, rfl, hs⟩ := pL.of hs
    exact Go.lstore_n hd rfl hv (hk _ _ _ _ hs).sF
  | astore i =>
    simp only [Bool.and_eq_true] at hr
    obtain ⟨hv, hr⟩ := hr
    obtain rfl := Nat.eq_of_beq_eq_true hr
    have hv := Nat.le_of_ble_eq_true hv
    obtain ⟨x, r, rfl, hs⟩ := pR.of hs
    exact Go.astore hd hv (hk _ _ _ _ hs).sF
  | astore_n i =>
    simp only [Bool.and_eq_true] at hr
    obtain ⟨hv, hr⟩ := hr
    obtain rfl := Nat.eq_of_beq_eq_true hr
    have hv := Nat.le_of_ble_eq_true hv
    obtain ⟨x, r, rfl, hs⟩ := pR.of hs
    exact Go.astore_n hd rfl hv (hk _ _ _ _ hs).sF
  | iinc i n =>
    simp only [Bool.and_eq_true, decide_eq_true_eq] at hr
    obtain ⟨hv, hn, hr⟩ := hr
    obtain rfl := Nat.eq_of_beq_eq_true hr
    have hv := Nat.le_of_ble_eq_true hv
    obtain ⟨x, e, hs⟩ := lI.of hs
    exact Go.iinc hd (gl_at e) (by rw [hn]) hv (hk _ _ _ _ hs).sF
  | getfield i =>
    simp only [Bool.and_eq_true, decide_eq_true_eq] at hr
    obtain ⟨hr, hv⟩ := hr
    obtain rfl := Nat.eq_of_beq_eq_true hr
    obtain ⟨ob, r, rfl, ho, hs⟩ := pR.of hs
    obtain ⟨q, g1, g2, g3, g4, -⟩ := fl_link hv
    rw [fvt_fav g3] at hs
    exact Go.getf hd g1 g2 (by rw [hc]; exact g4) ho (hk _ _ _ _ hs)
  | putfield i =>
    simp only [Bool.and_eq_true, decide_eq_true_eq] at hr
    obtain ⟨hr, hv⟩ := hr
    obtain rfl := Nat.eq_of_beq_eq_true hr
    obtain ⟨hv, hf⟩ := fl_fin hv
    obtain ⟨q, g1, g2, g3, g4, g5⟩ := fl_link hv
    have hfin := hf q g1
    rw [← hc] at g4
    match t, g3, g5, hs with
    | 0, g3, g5, hs =>
      obtain ⟨x, r, rfl, hs⟩ := pI.of hs
      obtain ⟨ob, r, rfl, ho, hs⟩ := pR.of hs
      exact Go.putI hd g1 g2 g3 g4 (Or.inl hfin) ho (hk _ _ _ _ hs)
    | 1, g3, g5, hs =>
      obtain ⟨x, r, rfl, hs⟩ := pL.of hs
      obtain ⟨ob, r, rfl, ho, hs⟩ := pR.of hs
      exact Go.putL hd g1 g2 g3 g4 (Or.inl hfin) ho (hk _ _ _ _ hs)
    | 2, g3, g5, hs =>
      obtain ⟨x, r, rfl, hs⟩ := pR.of hs
      obtain ⟨ob, r, rfl, ho, h0, h1, hs⟩ := pR.of hs
      exact Go.putR hd g1 g2 g3 (g5 rfl) h0 h1 g4 (Or.inl hfin) ho (hk _ _ _ _ hs)
    | t + 3, g3, g5, hs =>
      obtain ⟨x, r, rfl, hs⟩ := pI.of hs
      obtain ⟨ob, r, rfl, ho, h0, hs⟩ := pR.of hs
      have e3 : t + 3 = 3 := by
        rw [kd_of g1] at g3
        unfold fk at g3
        split at g3
        · omega
        · split at g3
          · omega
          · split at g3 <;> omega
      exact Go.putZ hd g1 g2 (g3.trans e3) h0 g4 (Or.inl hfin) ho (hk _ _ _ _ hs)
  | iaload =>
    obtain rfl := Nat.eq_of_beq_eq_true hr
    match t, hs with
    | 0, hs =>
      obtain ⟨i, r, rfl, hs⟩ := pI.of hs
      obtain ⟨ob, r, rfl, ho, hs⟩ := pR.of hs
      exact Go.iaload hd ho (hk _ _ _ _ hs)
    | t + 1, hs =>
      obtain ⟨i, r, rfl, hs⟩ := pI.of hs
      obtain ⟨ob, r, rfl, rfl, ho, hs⟩ := pR.of hs
      exact Go.sload hd ho (hk _ _ _ _ hs)
  | baload =>
    obtain rfl := Nat.eq_of_beq_eq_true hr
    obtain ⟨i, r, rfl, hs⟩ := pI.of hs
    obtain ⟨ob, r, rfl, ho, hs⟩ := pR.of hs
    exact Go.baload hd ho (hk _ _ _ _ hs)
  | laload =>
    obtain rfl := Nat.eq_of_beq_eq_true hr
    obtain ⟨i, r, rfl, hs⟩ := pI.of hs
    obtain ⟨ob, r, rfl, ho, hs⟩ := pR.of hs
    exact Go.laload hd ho (hk _ _ _ _ hs)
  | aaload =>
    simp only [Bool.and_eq_true, Bool.or_eq_true] at hr
    obtain ⟨ht, hr⟩ := hr
    obtain rfl := Nat.eq_of_beq_eq_true hr
    obtain ⟨i, r, rfl, hs⟩ := pI.of hs
    obtain ⟨ob, r, rfl, ho, hs⟩ := pR.of hs
    exact Go.aaload hd (ht.imp Nat.eq_of_beq_eq_true Nat.eq_of_beq_eq_true) ho (hk _ _ _ _ hs)
  | iastore =>
    obtain rfl := Nat.eq_of_beq_eq_true hr
    obtain ⟨x, r, rfl, hs⟩ := pI.of hs
    obtain ⟨i, r, rfl, hs⟩ := pI.of hs
    obtain ⟨ob, r, rfl, ho, hs⟩ := pR.of hs
    exact Go.iastore hd ho (hk _ _ _ _ hs)
  | bastore =>
    obtain rfl := Nat.eq_of_beq_eq_true hr
    obtain ⟨x, r, rfl, hs⟩ := pI.of hs
    obtain ⟨i, r, rfl, hs⟩ := pI.of hs
    obtain ⟨ob, r, rfl, ho, h01, hs⟩ := pR.of hs
    exact Go.bastore hd ho h01 (hk _ _ _ _ hs)
  | lastore =>
    obtain rfl := Nat.eq_of_beq_eq_true hr
    obtain ⟨x, r, rfl, hs⟩ := pL.of hs
    obtain ⟨i, r, rfl, hs⟩ := pI.of hs
    obtain ⟨ob, r, rfl, ho, hs⟩ := pR.of hs
    exact Go.lastore hd ho (hk _ _ _ _ hs)
  | aastore =>
    simp only [Bool.and_eq_true, Bool.or_eq_true] at hr
    obtain ⟨ht, hr⟩ := hr
    obtain rfl := Nat.eq_of_beq_eq_true hr
    obtain ⟨x, r, rfl, hs⟩ := pR.of hs
    obtain ⟨i, r, rfl, hs⟩ := pI.of hs
    obtain ⟨ob, r, rfl, ho, hx, hs⟩ := pR.of hs
    exact Go.aastore hd (ht.imp (fun z => ⟨Nat.eq_of_beq_eq_true z.1, Nat.eq_of_beq_eq_true z.2⟩) (fun z => ⟨Nat.eq_of_beq_eq_true z.1, Nat.eq_of_beq_eq_true z.2⟩)) ho hx (hk _ _ _ _ hs)
  | arraylength =>
    obtain rfl := Nat.eq_of_beq_eq_true hr
    match t, hs with
    | 0, hs =>
      obtain ⟨ob, r, rfl, ty, n, h5, ho, hs⟩ := pR.of hs
      exact Go.alen hd h5 ho (hk _ _ _ _ hs)
    | t + 1, hs =>
      obtain ⟨ob, r, e1, e2, hs2⟩ := pR.of hs
      subst e1
      subst e2
      exact Go.slen hd (hk _ _ _ _ hs2)
  | tableswitch d lo hi offs =>
    simp only [Bool.and_eq_true, decide_eq_true_eq] at hr
    obtain ⟨h1, h2, h3, h4, h5⟩ := hr
    obtain ⟨x, r, rfl, hs⟩ := pI.of hs
    exact Go.tswitch hd h1 h2 h3 h4 h5 (hk _ _ _ _ (swt_sel (f := fun tgt => k tgt ls r h) hs))
  | lookupswitch d ps =>
    simp only [Bool.and_eq_true, decide_eq_true_eq] at hr
    obtain ⟨h1, h2, h3⟩ := hr
    obtain ⟨x, r, rfl, hs⟩ := pI.of hs
    exact Go.lswitch hd h1 h2 h3 (hk _ _ _ _ (swt_sel (f := fun tgt => k tgt ls r h) hs))
  | ifCond cc off =>
    simp only [Bool.and_eq_true, decide_eq_true_eq] at hr
    obtain ⟨hv, hr⟩ := hr
    obtain rfl := Nat.eq_of_beq_eq_true hr
    cases cc
    · obtain ⟨x, r, rfl, h1, h2⟩ := pI.of hs
      first | exact Go.if_eq hd hv (fun z => hk _ _ _ _ (h1 z)) (fun z => hk _ _ _ _ (h2 z)) | exact Go.if_ne hd hv (fun z => hk _ _ _ _ (h1 z)) (fun z => hk _ _ _ _ (h2 z)) | exact Go.if_lt hd hv (fun z => hk _ _ _ _ (h1 z)) (fun z => hk _ _ _ _ (h2 z)) | exact Go.if_ge hd hv (fun z => hk _ _ _ _ (h1 z)) (fun z => hk _ _ _ _ (h2 z)) | exact Go.if_gt hd hv (fun z => hk _ _ _ _ (h1 z)) (fun z => hk _ _ _ _ (h2 z)) | exact Go.if_le hd hv (fun z => hk _ _ _ _ (h1 z)) (fun z => hk _ _ _ _ (h2 z))
    · obtain ⟨x, r, rfl, h1, h2⟩ := pI.of hs
      first | exact Go.if_eq hd hv (fun z => hk _ _ _ _ (h1 z)) (fun z => hk _ _ _ _ (h2 z)) | exact Go.if_ne hd hv (fun z => hk _ _ _ _ (h1 z)) (fun z => hk _ _ _ _ (h2 z)) | exact Go.if_lt hd hv (fun z => hk _ _ _ _ (h1 z)) (fun z => hk _ _ _ _ (h2 z)) | exact Go.if_ge hd hv (fun z => hk _ _ _ _ (h1 z)) (fun z => hk _ _ _ _ (h2 z)) | exact Go.if_gt hd hv (fun z => hk _ _ _ _ (h1 z)) (fun z => hk _ _ _ _ (h2 z)) | exact Go.if_le hd hv (fun z => hk _ _ _ _ (h1 z)) (fun z => hk _ _ _ _ (h2 z))
    · obtain ⟨x, r, rfl, h1, h2⟩ := pI.of hs
      first | exact Go.if_eq hd hv (fun z => hk _ _ _ _ (h1 z)) (fun z => hk _ _ _ _ (h2 z)) | exact Go.if_ne hd hv (fun z => hk _ _ _ _ (h1 z)) (fun z => hk _ _ _ _ (h2 z)) | exact Go.if_lt hd hv (fun z => hk _ _ _ _ (h1 z)) (fun z => hk _ _ _ _ (h2 z)) | exact Go.if_ge hd hv (fun z => hk _ _ _ _ (h1 z)) (fun z => hk _ _ _ _ (h2 z)) | exact Go.if_gt hd hv (fun z => hk _ _ _ _ (h1 z)) (fun z => hk _ _ _ _ (h2 z)) | exact Go.if_le hd hv (fun z => hk _ _ _ _ (h1 z)) (fun z => hk _ _ _ _ (h2 z))
    · obtain ⟨x, r, rfl, h1, h2⟩ := pI.of hs
      first | exact Go.if_eq hd hv (fun z => hk _ _ _ _ (h1 z)) (fun z => hk _ _ _ _ (h2 z)) | exact Go.if_ne hd hv (fun z => hk _ _ _ _ (h1 z)) (fun z => hk _ _ _ _ (h2 z)) | exact Go.if_lt hd hv (fun z => hk _ _ _ _ (h1 z)) (fun z => hk _ _ _ _ (h2 z)) | exact Go.if_ge hd hv (fun z => hk _ _ _ _ (h1 z)) (fun z => hk _ _ _ _ (h2 z)) | exact Go.if_gt hd hv (fun z => hk _ _ _ _ (h1 z)) (fun z => hk _ _ _ _ (h2 z)) | exact Go.if_le hd hv (fun z => hk _ _ _ _ (h1 z)) (fun z => hk _ _ _ _ (h2 z))
    · obtain ⟨x, r, rfl, h1, h2⟩ := pI.of hs
      first | exact Go.if_eq hd hv (fun z => hk _ _ _ _ (h1 z)) (fun z => hk _ _ _ _ (h2 z)) | exact Go.if_ne hd hv (fun z => hk _ _ _ _ (h1 z)) (fun z => hk _ _ _ _ (h2 z)) | exact Go.if_lt hd hv (fun z => hk _ _ _ _ (h1 z)) (fun z => hk _ _ _ _ (h2 z)) | exact Go.if_ge hd hv (fun z => hk _ _ _ _ (h1 z)) (fun z => hk _ _ _ _ (h2 z)) | exact Go.if_gt hd hv (fun z => hk _ _ _ _ (h1 z)) (fun z => hk _ _ _ _ (h2 z)) | exact Go.if_le hd hv (fun z => hk _ _ _ _ (h1 z)) (fun z => hk _ _ _ _ (h2 z))
    · obtain ⟨x, r, rfl, h1, h2⟩ := pI.of hs
      first | exact Go.if_eq hd hv (fun z => hk _ _ _ _ (h1 z)) (fun z => hk _ _ _ _ (h2 z)) | exact Go.if_ne hd hv (fun z => hk _ _ _ _ (h1 z)) (fun z => hk _ _ _ _ (h2 z)) | exact Go.if_lt hd hv (fun z => hk _ _ _ _ (h1 z)) (fun z => hk _ _ _ _ (h2 z)) | exact Go.if_ge hd hv (fun z => hk _ _ _ _ (h1 z)) (fun z => hk _ _ _ _ (h2 z)) | exact Go.if_gt hd hv (fun z => hk _ _ _ _ (h1 z)) (fun z => hk _ _ _ _ (h2 z)) | exact Go.if_le hd hv (fun z => hk _ _ _ _ (h1 z)) (fun z => hk _ _ _ _ (h2 z))
  | if_icmp cc off =>
    simp only [Bool.and_eq_true, decide_eq_true_eq] at hr
    obtain ⟨hv, hr⟩ := hr
    obtain rfl := Nat.eq_of_beq_eq_true hr
    cases cc
    · obtain ⟨x, y, r, rfl, h1, h2⟩ := pII.of hs
      first | exact Go.icmp_eq hd hv (fun z => hk _ _ _ _ (h1 z)) (fun z => hk _ _ _ _ (h2 z)) | exact Go.icmp_ne hd hv (fun z => hk _ _ _ _ (h1 z)) (fun z => hk _ _ _ _ (h2 z)) | exact Go.icmp_lt hd hv (fun z => hk _ _ _ _ (h1 z)) (fun z => hk _ _ _ _ (h2 z)) | exact Go.icmp_ge hd hv (fun z => hk _ _ _ _ (h1 z)) (fun z => hk _ _ _ _ (h2 z)) | exact Go.icmp_gt hd hv (fun z => hk _ _ _ _ (h1 z)) (fun z => hk _ _ _ _ (h2 z)) | exact Go.icmp_le hd hv (fun z => hk _ _ _ _ (h1 z)) (fun z => hk _ _ _ _ (h2 z))
    · obtain ⟨x, y, r, rfl, h1, h2⟩ := pII.of hs
      first | exact Go.icmp_eq hd hv (fun z => hk _ _ _ _ (h1 z)) (fun z => hk _ _ _ _ (h2 z)) | exact Go.icmp_ne hd hv (fun z => hk _ _ _ _ (h1 z)) (fun z => hk _ _ _ _ (h2 z)) | exact Go.icmp_lt hd hv (fun z => hk _ _ _ _ (h1 z)) (fun z => hk _ _ _ _ (h2 z)) | exact Go.icmp_ge hd hv (fun z => hk _ _ _ _ (h1 z)) (fun z => hk _ _ _ _ (h2 z)) | exact Go.icmp_gt hd hv (fun z => hk _ _ _ _ (h1 z)) (fun z => hk _ _ _ _ (h2 z)) | exact Go.icmp_le hd hv (fun z => hk _ _ _ _ (h1 z)) (fun z => hk _ _ _ _ (h2 z))
    · obtain ⟨x, y, r, rfl, h1, h2⟩ := pII.of hs
      first | exact Go.icmp_eq hd hv (fun z => hk _ _ _ _ (h1 z)) (fun z => hk _ _ _ _ (h2 z)) | exact Go.icmp_ne hd hv (fun z => hk _ _ _ _ (h1 z)) (fun z => hk _ _ _ _ (h2 z)) | exact Go.icmp_lt hd hv (fun z => hk _ _ _ _ (h1 z)) (fun z => hk _ _ _ _ (h2 z)) | exact Go.icmp_ge hd hv (fun z => hk _ _ _ _ (h1 z)) (fun z => hk _ _ _ _ (h2 z)) | exact Go.icmp_gt hd hv (fun z => hk _ _ _ _ (h1 z)) (fun z => hk _ _ _ _ (h2 z)) | exact Go.icmp_le hd hv (fun z => hk _ _ _ _ (h1 z)) (fun z => hk _ _ _ _ (h2 z))
    · obtain ⟨x, y, r, rfl, h1, h2⟩ := pII.of hs
      first | exact Go.icmp_eq hd hv (fun z => hk _ _ _ _ (h1 z)) (fun z => hk _ _ _ _ (h2 z)) | exact Go.icmp_ne hd hv (fun z => hk _ _ _ _ (h1 z)) (fun z => hk _ _ _ _ (h2 z)) | exact Go.icmp_lt hd hv (fun z => hk _ _ _ _ (h1 z)) (fun z => hk _ _ _ _ (h2 z)) | exact Go.icmp_ge hd hv (fun z => hk _ _ _ _ (h1 z)) (fun z => hk _ _ _ _ (h2 z)) | exact Go.icmp_gt hd hv (fun z => hk _ _ _ _ (h1 z)) (fun z => hk _ _ _ _ (h2 z)) | exact Go.icmp_le hd hv (fun z => hk _ _ _ _ (h1 z)) (fun z => hk _ _ _ _ (h2 z))
    · obtain ⟨x, y, r, rfl, h1, h2⟩ := pII.of hs
      first | exact Go.icmp_eq hd hv (fun z => hk _ _ _ _ (h1 z)) (fun z => hk _ _ _ _ (h2 z)) | exact Go.icmp_ne hd hv (fun z => hk _ _ _ _ (h1 z)) (fun z => hk _ _ _ _ (h2 z)) | exact Go.icmp_lt hd hv (fun z => hk _ _ _ _ (h1 z)) (fun z => hk _ _ _ _ (h2 z)) | exact Go.icmp_ge hd hv (fun z => hk _ _ _ _ (h1 z)) (fun z => hk _ _ _ _ (h2 z)) | exact Go.icmp_gt hd hv (fun z => hk _ _ _ _ (h1 z)) (fun z => hk _ _ _ _ (h2 z)) | exact Go.icmp_le hd hv (fun z => hk _ _ _ _ (h1 z)) (fun z => hk _ _ _ _ (h2 z))
    · obtain ⟨x, y, r, rfl, h1, h2⟩ := pII.of hs
      first | exact Go.icmp_eq hd hv (fun z => hk _ _ _ _ (h1 z)) (fun z => hk _ _ _ _ (h2 z)) | exact Go.icmp_ne hd hv (fun z => hk _ _ _ _ (h1 z)) (fun z => hk _ _ _ _ (h2 z)) | exact Go.icmp_lt hd hv (fun z => hk _ _ _ _ (h1 z)) (fun z => hk _ _ _ _ (h2 z)) | exact Go.icmp_ge hd hv (fun z => hk _ _ _ _ (h1 z)) (fun z => hk _ _ _ _ (h2 z)) | exact Go.icmp_gt hd hv (fun z => hk _ _ _ _ (h1 z)) (fun z => hk _ _ _ _ (h2 z)) | exact Go.icmp_le hd hv (fun z => hk _ _ _ _ (h1 z)) (fun z => hk _ _ _ _ (h2 z))
  | invokevirtual i =>
    simp only [Bool.and_eq_true, decide_eq_true_eq] at hr
    obtain ⟨hr, h1, h2, h3, h4, h5, h6⟩ := hr
    obtain rfl := Nat.eq_of_beq_eq_true hr
    have ha : a < 293 := Nat.le_of_ble_eq_true h2
    have hk0 := Nat.eq_of_beq_eq_true h3
    have hn := Nat.eq_of_beq_eq_true h4
    have hs : (match Nat.blt t 50 with
      | true => pAs b [] st (fun as st => pR st (fun o st => b8 (szS st) (Ob h o t ∧ Spec G l (mt a) (vR o :: as) h (rC (rk tb) (fun r h => k (pc + 3) ls (r ++ st) h)))))
      | false => pAs b [] st (fun as st => pR st (fun o st => b8 (szS st) ((o = xh ∨ o = xh + 1 ∨ o = xh + 2) ∧ Spec G l (mt a) (vR o :: as) h (rC (rk tb) (fun r h => k (pc + 3) ls (r ++ st) h)))))) := hs
    cases hb : Nat.blt t 50 with
    | true =>
      rw [hb] at hs h5
      simp only [decide_eq_true_eq] at h5
      obtain ⟨as, r, rfl, hl, hs⟩ := pAs_of _ _ _ _ hs
      obtain ⟨ob, r, rfl, hs⟩ := pR.of hs
      obtain ⟨h8, ho, hs⟩ := b8.of hs
      obtain ⟨g1, g2, g3⟩ := rmB_of h6 h8
      cases e : vwCl[t]? with
      | none => rw [e] at h5; simp at h5
      | some q =>
        rw [e] at h5
        have h5 : q.1 = cnm (mcn a) := by simpa using h5
        rw [List.append_nil] at hs
        exact Go.callV hd (mt_MOK ha (by omega)).1 (mt_V ha hk0) (by rw [hc]; exact (ml_link h1).1 rfl) (hl.trans hn.symm) e (h5.trans (mcl_of ha).symm) ho g1 (Or.inl g2) (hs.mono (fun r' h' z => Go.zero g2 g3 (hk _ _ _ _ (rC_of z))))
    | false =>
      rw [hb] at hs h5
      simp only [decide_eq_true_eq] at h5
      obtain ⟨as, r, rfl, hl, hs⟩ := pAs_of _ _ _ _ hs
      obtain ⟨ob, r, rfl, hs⟩ := pR.of hs
      obtain ⟨h8, ho, hs⟩ := b8.of hs
      obtain ⟨g1, g2, g3⟩ := rmB_of h6 h8
      rw [List.append_nil] at hs
      exact Go.callVS hd (mt_MOK ha (by omega)).1 (mt_V ha hk0) (by rw [hc]; exact (ml_link h1).1 rfl) (hl.trans hn.symm) ((mcl_of ha).trans h5) ho g1 (Or.inl g2) (hs.mono (fun r' h' z => Go.zero g2 g3 (hk _ _ _ _ (rC_of z))))
  | invokestatic i =>
    rw [Bool.and_eq_true] at hr
    obtain ⟨hr, hv⟩ := hr
    obtain rfl := Nat.eq_of_beq_eq_true hr
    match t, hv, hs with
    | 0, hv, hs =>
      simp only [Bool.and_eq_true, decide_eq_true_eq] at hv
      obtain ⟨h1, h2, h3, h4, h6⟩ := hv
      obtain ⟨as, r, rfl, hl, hs⟩ := pAs_of _ _ _ _ hs
      obtain ⟨h8, hs⟩ := b8.of hs
      have ha : a < 293 := Nat.le_of_ble_eq_true h2
      have hk0 := Nat.eq_of_beq_eq_true h3
      have hn := Nat.eq_of_beq_eq_true h4
      obtain ⟨g1, g2, g3⟩ := rmB_of h6 h8
      rw [List.append_nil] at hs
      exact Go.callS hd (mt_MOK ha (by omega)).1 (mt_S ha hk0) (by rw [hc]; exact (ml_link h1).1 rfl) (hl.trans hn.symm) g1 (Or.inl g2) (hs.mono (fun r' h' z => Go.zero g2 g3 (hk _ _ _ _ (rC_of z))))
    | 1, hv, hs =>
      simp only [Bool.and_eq_true, decide_eq_true_eq] at hv
      obtain ⟨h1, h2, h3, h4, h6⟩ := hv
      obtain ⟨as, r, rfl, hl, hs⟩ := pAs_of _ _ _ _ hs
      obtain ⟨h8, hs⟩ := b8.of hs
      have ha : a < 293 := Nat.le_of_ble_eq_true h2
      have hk0 := Nat.eq_of_beq_eq_true h3
      have hn := Nat.eq_of_beq_eq_true h4
      obtain ⟨g1, g2, g3⟩ := rmB_of h6 h8
      rw [List.append_nil] at hs
      exact Go.callSN hd (mt_MOK ha (by omega)).1 (mt_S ha hk0) (by rw [hc]; exact (ml_link h1).2 (by omega)) (hl.trans hn.symm) g1 (Or.inl g2) (hs.mono (fun r' h' z => Go.zero g2 g3 (hk _ _ _ _ (rC_of z))))
    | 2, hv, hs =>
      simp only [Bool.and_eq_true, decide_eq_true_eq] at hv
      obtain ⟨h1, h6⟩ := hv
      have h6 := rmX_of h6
      obtain ⟨n, r, rfl, hs⟩ := pI.of hs
      obtain ⟨dp, r, rfl, hs⟩ := pI.of hs
      obtain ⟨d, r, rfl, hs⟩ := pR.of hs
      obtain ⟨sp, r, rfl, hs⟩ := pI.of hs
      obtain ⟨s, r, rfl, hs⟩ := pR.of hs
      obtain ⟨h8, na, nb, g1, g2, g3, g4, g5, g6, g7, hs⟩ := b8.of hs
      refine Go.arraycopy hd (by rw [hc]; exact ac_link h1) wa_nat wa_st wa_in h6.1 ?_ g1 g2 g3 g4 g5 g6 g7 (hk _ _ _ _ hs)
      rw [szS_eq]
      have : nativeFrameWords "java/lang/System" "arraycopy" 5 = 7 := by decide
      omega
    | 3, hv, hs =>
      simp only [Bool.and_eq_true, decide_eq_true_eq] at hv
      obtain ⟨h1, h6⟩ := hv
      obtain ⟨x, y, r, rfl, hs⟩ := pII.of hs
      obtain ⟨h8, hs⟩ := b8.of hs
      exact Go.mmin hd (by rw [hc, ← wm_min_n]; exact (ml_link h1).1 rfl) (rmY_of h6) h8 (hk _ _ _ _ hs)
    | 4, hv, hs =>
      simp only [Bool.and_eq_true, decide_eq_true_eq] at hv
      obtain ⟨h1, h6⟩ := hv
      obtain ⟨x, y, r, rfl, hs⟩ := pII.of hs
      obtain ⟨h8, hs⟩ := b8.of hs
      exact Go.mmax hd (by rw [hc, ← wm_max_n]; exact (ml_link h1).1 rfl) (rmY_of h6) h8 (hk _ _ _ _ hs)
    | 5, hv, hs =>
      simp only [Bool.and_eq_true, decide_eq_true_eq] at hv
      obtain ⟨h1, h6⟩ := hv
      obtain ⟨x, r, rfl, hs⟩ := pI.of hs
      obtain ⟨h8, hs⟩ := b8.of hs
      exact Go.mabs hd (by rw [hc, ← wm_abs_n]; exact (ml_link h1).1 rfl) (rmY_of h6) h8 (hk _ _ _ _ hs)
    | t + 6, hv, hs => cases hv
  | ireturn =>
    rw [Bool.and_eq_true] at hr
    obtain ⟨hv, hr⟩ := hr
    obtain rfl := Nat.eq_of_beq_eq_true hr
    match t, hv, hs with
    | 0, hv, hs =>
      match st, hs with
      | [.inl x], hs => exact Go.ireturn hd (of_decide_eq_true hv) (by omega) (by omega) hs
    | t + 1, hv, hs =>
      match st, hs with
      | [.inl x], hs => exact Go.zreturn hd (of_decide_eq_true hv) hs.1 (by omega) (by omega) hs.2
  | lreturn =>
    rw [Bool.and_eq_true, decide_eq_true_eq] at hr
    obtain ⟨hv, hr⟩ := hr
    obtain rfl := Nat.eq_of_beq_eq_true hr
    match st, hs with
    | [.inr (.inl x)], hs => exact Go.lreturn hd hv (by omega) (by omega) hs
  | areturn =>
    rw [Bool.and_eq_true] at hr
    obtain ⟨hv, hr⟩ := hr
    obtain rfl := Nat.eq_of_beq_eq_true hr
    split at hv
    · rename_i C e
      match st, hs with
      | [.inr (.inr x)], hs => exact Go.areturn hd e (by omega) (by omega) hs
    · cases hv
  | return_ =>
    rw [Bool.and_eq_true, decide_eq_true_eq] at hr
    obtain ⟨hv, hr⟩ := hr
    obtain rfl := Nat.eq_of_beq_eq_true hr
    match st, hs with
    | [], hs => exact Go.vreturn hd hv (by omega) (by omega) hs
  | _ => exact (show False from hs).elim
theorem seek_sub {t : Nat} : ∀ {C : List Row} {r : Row} {rs : List Row}, seek t C = r :: rs → r.1 = t ∧ ∀ q ∈ r :: rs, q ∈ C
  | [], r, rs, h => by simp [seek] at h
  | a :: C, r, rs, h => by
    simp only [seek] at h
    split at h
    · rename_i e
      injection h with h1 h2
      subst h1; subst h2
      exact ⟨Nat.eq_of_beq_eq_true e, fun q z => z⟩
    · obtain ⟨g1, g2⟩ := seek_sub h
      exact ⟨g1, fun q z => List.mem_cons_of_mem _ (g2 q z)⟩
theorem wp_ok {G : GP} {l : Launch} {m : Nat} {C : List Row} {cuts : List (Nat × Nat)} {K : Option AV → AH → Prop} (hm : m < 293) (hC : C.all (rowOK m) = true) : ∀ (n : Nat) (rs : List Row) (ls : List (Option AV)) (st : List AV) (h : AH), (∀ q ∈ rs, q ∈ C) → wp G l m C cuts K n rs ls st h → ∃ r rest, rs = r :: rest ∧ Go G l (mt m) r.1 ls st h 0 0 K
  | 0, rs, ls, st, h, _, hw => by cases rs <;> exact hw.elim
  | n + 1, [], ls, st, h, _, hw => hw.elim
  | n + 1, r :: rest, ls, st, h, hsub, hw => by
    refine ⟨r, rest, rfl, ?_⟩
    refine stp_ok hm (List.all_eq_true.mp hC r (hsub r List.mem_cons_self)) hw ?_
    intro t ls st h hk
    split at hk
    · exact hk.forget (fun i a z => cutN_get _ _ i a z)
    · split at hk
      · rename_i e
        obtain ⟨r2, rest2, e2, g⟩ := wp_ok hm hC n rest ls st h (fun q z => hsub q (List.mem_cons_of_mem _ z)) hk
        subst e2
        rw [← Nat.eq_of_beq_eq_true (show Nat.beq r2.1 t = true from e)]
        exact g
      · cases e : seek t C with
        | nil => rw [e] at hk; cases n <;> exact hk.elim
        | cons r2 rest2 =>
          obtain ⟨g1, g2⟩ := seek_sub e
          rw [e] at hk
          obtain ⟨r3, rest3, e3, g⟩ := wp_ok hm hC n (r2 :: rest2) ls st h g2 hk
          injection e3 with e4 e5
          subst e4
          rw [← g1]
          exact g
/-- from place t of a method's code, n instructions or to the cuts -/
theorem Go.run {G : GP} {l : Launch} {m t : Nat} {C : List Row} {K : Option AV → AH → Prop} {ls : List (Option AV)} {st : List AV} {h : AH} (n : Nat) (cuts : List (Nat × Nat)) (hm : m < 293) (hC : C.all (rowOK m) = true) (hw : wp G l m C cuts K n (seek t C) ls st h) : Go G l (mt m) t ls st h 0 0 K := by
  cases e : seek t C with
  | nil => rw [e] at hw; cases n <;> exact hw.elim
  | cons r2 rest2 =>
    obtain ⟨g1, g2⟩ := seek_sub e
    rw [e] at hw
    obtain ⟨r3, rest3, e3, g⟩ := wp_ok hm hC n (r2 :: rest2) ls st h g2 hw
    injection e3 with e4 e5
    subst e4
    rw [← g1]
    exact g
/-- a method's contract, by its walk -/
theorem Spec.run {G : GP} {l : Launch} {m : Nat} {C : List Row} {K : Option AV → AH → Prop} {as : List AV} {h : AH} (n : Nat) (cuts : List (Nat × Nat)) (hm : m < 293) (hk : (mtK m).1 < 9) (hC : C.all (rowOK m) = true) (hn : Nat.ble (enL as).length (mdL (mt m)) = true) (hw : wp G l m C cuts K n (seek 0 C) (entL as (mdL (mt m))) [] h) : Spec G l (mt m) as h K :=
  Spec.of (mt_MOK hm hk).1 (mt_MOK hm hk).2 (Nat.le_of_ble_eq_true hn) (Go.run n cuts hm hC hw)
end
