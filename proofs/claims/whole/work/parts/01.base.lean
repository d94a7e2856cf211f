/-- a private method of a class that the tables say can be made, by its rows of tables_1 -/
def lw_okq (q : MethodName × Nat) : Prop := (q.1.cls ≠ "java/lang/invoke/MethodHandle" ∧ q.1.cls ≠ "java/lang/invoke/VarHandle") ∧ Cond.instantiable q.1.cls q.2 ∈ tables_1 ∧ Cond.privateMethod q.1 ∈ tables_1 ∧ Cond.instanceMethod q.1 ∈ tables_1
theorem lw_p0 : lw_okq (⟨"NameNets$Tree", "clear", "()V"⟩, 14) := ⟨⟨by decide +kernel, by decide +kernel⟩, List.mem_of_getElem? (i := 75) (by decide +kernel), List.mem_of_getElem? (i := 436) (by decide +kernel), List.mem_of_getElem? (i := 437) (by decide +kernel)⟩
theorem lw_p1 : lw_okq (⟨"NameNets$Tree", "growFrom", "(I)V"⟩, 14) := ⟨⟨by decide +kernel, by decide +kernel⟩, List.mem_of_getElem? (i := 75) (by decide +kernel), List.mem_of_getElem? (i := 440) (by decide +kernel), List.mem_of_getElem? (i := 441) (by decide +kernel)⟩
theorem lw_p2 : lw_okq (⟨"NameNets$Tree", "place", "(I)V"⟩, 14) := ⟨⟨by decide +kernel, by decide +kernel⟩, List.mem_of_getElem? (i := 75) (by decide +kernel), List.mem_of_getElem? (i := 444) (by decide +kernel), List.mem_of_getElem? (i := 445) (by decide +kernel)⟩
theorem lw_p3 : lw_okq (⟨"NameNets$Tree", "numberPosts", "()V"⟩, 14) := ⟨⟨by decide +kernel, by decide +kernel⟩, List.mem_of_getElem? (i := 75) (by decide +kernel), List.mem_of_getElem? (i := 453) (by decide +kernel), List.mem_of_getElem? (i := 454) (by decide +kernel)⟩
theorem lw_p4 : lw_okq (⟨"NameNets$Tree", "nameLines", "()V"⟩, 14) := ⟨⟨by decide +kernel, by decide +kernel⟩, List.mem_of_getElem? (i := 75) (by decide +kernel), List.mem_of_getElem? (i := 458) (by decide +kernel), List.mem_of_getElem? (i := 459) (by decide +kernel)⟩
theorem lw_p5 : lw_okq (⟨"NameNets", "kindsLearned", "()I"⟩, 8) := ⟨⟨by decide +kernel, by decide +kernel⟩, List.mem_of_getElem? (i := 21) (by decide +kernel), List.mem_of_getElem? (i := 462) (by decide +kernel), List.mem_of_getElem? (i := 463) (by decide +kernel)⟩
theorem lw_p6 : lw_okq (⟨"NameNets$Labels", "nameAbove", "(LNameNets$Names;)V"⟩, 10) := ⟨⟨by decide +kernel, by decide +kernel⟩, List.mem_of_getElem? (i := 138) (by decide +kernel), List.mem_of_getElem? (i := 507) (by decide +kernel), List.mem_of_getElem? (i := 508) (by decide +kernel)⟩
theorem lw_p7 : lw_okq (⟨"NameNets$Labels", "nameJoined", "(LNameNets$Names;)V"⟩, 10) := ⟨⟨by decide +kernel, by decide +kernel⟩, List.mem_of_getElem? (i := 138) (by decide +kernel), List.mem_of_getElem? (i := 516) (by decide +kernel), List.mem_of_getElem? (i := 517) (by decide +kernel)⟩
theorem lw_p8 : lw_okq (⟨"NameNets$Labels", "fewestLines", "(I)I"⟩, 10) := ⟨⟨by decide +kernel, by decide +kernel⟩, List.mem_of_getElem? (i := 138) (by decide +kernel), List.mem_of_getElem? (i := 520) (by decide +kernel), List.mem_of_getElem? (i := 521) (by decide +kernel)⟩
theorem lw_p9 : lw_okq (⟨"NameNets$Labels", "nameFar", "(LNameNets$Names;)V"⟩, 10) := ⟨⟨by decide +kernel, by decide +kernel⟩, List.mem_of_getElem? (i := 138) (by decide +kernel), List.mem_of_getElem? (i := 526) (by decide +kernel), List.mem_of_getElem? (i := 527) (by decide +kernel)⟩
theorem lw_p10 : lw_okq (⟨"NameNets$Labels", "mostLines", "(I)I"⟩, 10) := ⟨⟨by decide +kernel, by decide +kernel⟩, List.mem_of_getElem? (i := 138) (by decide +kernel), List.mem_of_getElem? (i := 530) (by decide +kernel), List.mem_of_getElem? (i := 531) (by decide +kernel)⟩
theorem lw_p11 : lw_okq (⟨"NameNets$Labels", "spread", "(LNameNets$Names;I)V"⟩, 10) := ⟨⟨by decide +kernel, by decide +kernel⟩, List.mem_of_getElem? (i := 138) (by decide +kernel), List.mem_of_getElem? (i := 535) (by decide +kernel), List.mem_of_getElem? (i := 536) (by decide +kernel)⟩
theorem lw_p12 : lw_okq (⟨"NameNets", "bitsOf", "(II)I"⟩, 8) := ⟨⟨by decide +kernel, by decide +kernel⟩, List.mem_of_getElem? (i := 21) (by decide +kernel), List.mem_of_getElem? (i := 571) (by decide +kernel), List.mem_of_getElem? (i := 572) (by decide +kernel)⟩
theorem lw_p13 : lw_okq (⟨"NameNets$Names", "isAbove", "(II)Z"⟩, 5) := ⟨⟨by decide +kernel, by decide +kernel⟩, List.mem_of_getElem? (i := 145) (by decide +kernel), List.mem_of_getElem? (i := 583) (by decide +kernel), List.mem_of_getElem? (i := 584) (by decide +kernel)⟩
theorem lw_p14 : lw_okq (⟨"NameNets$Names", "standsBehind", "(II)Z"⟩, 5) := ⟨⟨by decide +kernel, by decide +kernel⟩, List.mem_of_getElem? (i := 145) (by decide +kernel), List.mem_of_getElem? (i := 587) (by decide +kernel), List.mem_of_getElem? (i := 588) (by decide +kernel)⟩
theorem lw_p15 : lw_okq (⟨"NameNets$Cuts", "namesGiveNothing", "(I)Z"⟩, 5) := ⟨⟨by decide +kernel, by decide +kernel⟩, List.mem_of_getElem? (i := 258) (by decide +kernel), List.mem_of_getElem? (i := 607) (by decide +kernel), List.mem_of_getElem? (i := 608) (by decide +kernel)⟩
def lw_privs_1 : List (MethodName × Nat) := [(⟨"NameNets$Tree", "clear", "()V"⟩, 14), (⟨"NameNets$Tree", "growFrom", "(I)V"⟩, 14), (⟨"NameNets$Tree", "place", "(I)V"⟩, 14), (⟨"NameNets$Tree", "numberPosts", "()V"⟩, 14), (⟨"NameNets$Tree", "nameLines", "()V"⟩, 14), (⟨"NameNets", "kindsLearned", "()I"⟩, 8), (⟨"NameNets$Labels", "nameAbove", "(LNameNets$Names;)V"⟩, 10), (⟨"NameNets$Labels", "nameJoined", "(LNameNets$Names;)V"⟩, 10), (⟨"NameNets$Labels", "fewestLines", "(I)I"⟩, 10), (⟨"NameNets$Labels", "nameFar", "(LNameNets$Names;)V"⟩, 10), (⟨"NameNets$Labels", "mostLines", "(I)I"⟩, 10), (⟨"NameNets$Labels", "spread", "(LNameNets$Names;I)V"⟩, 10), (⟨"NameNets", "bitsOf", "(II)I"⟩, 8), (⟨"NameNets$Names", "isAbove", "(II)Z"⟩, 5), (⟨"NameNets$Names", "standsBehind", "(II)Z"⟩, 5), (⟨"NameNets$Cuts", "namesGiveNothing", "(I)Z"⟩, 5)]
theorem lw_r1 : ∀ q ∈ lw_privs_1, lw_okq q := List.forall_mem_cons.mpr ⟨lw_p0, List.forall_mem_cons.mpr ⟨lw_p1, List.forall_mem_cons.mpr ⟨lw_p2, List.forall_mem_cons.mpr ⟨lw_p3, List.forall_mem_cons.mpr ⟨lw_p4, List.forall_mem_cons.mpr ⟨lw_p5, List.forall_mem_cons.mpr ⟨lw_p6, List.forall_mem_cons.mpr ⟨lw_p7, List.forall_mem_cons.mpr ⟨lw_p8, List.forall_mem_cons.mpr ⟨lw_p9, List.forall_mem_cons.mpr ⟨lw_p10, List.forall_mem_cons.mpr ⟨lw_p11, List.forall_mem_cons.mpr ⟨lw_p12, List.forall_mem_cons.mpr ⟨lw_p13, List.forall_mem_cons.mpr ⟨lw_p14, List.forall_mem_cons.mpr ⟨lw_p15, fun _ h => absurd h List.not_mem_nil⟩⟩⟩⟩⟩⟩⟩⟩⟩⟩⟩⟩⟩⟩⟩⟩
theorem lw_p16 : lw_okq (⟨"NameNets$Page", "checkOf", "(I)I"⟩, 3) := ⟨⟨by decide +kernel, by decide +kernel⟩, List.mem_of_getElem? (i := 202) (by decide +kernel), List.mem_of_getElem? (i := 634) (by decide +kernel), List.mem_of_getElem? (i := 635) (by decide +kernel)⟩
theorem lw_p17 : lw_okq (⟨"NameNets$Parcels", "findStretch", "(LNameNets$Names;)V"⟩, 8) := ⟨⟨by decide +kernel, by decide +kernel⟩, List.mem_of_getElem? (i := 223) (by decide +kernel), List.mem_of_getElem? (i := 712) (by decide +kernel), List.mem_of_getElem? (i := 713) (by decide +kernel)⟩
theorem lw_p18 : lw_okq (⟨"NameNets$Parcels", "offer", "(IIII)V"⟩, 8) := ⟨⟨by decide +kernel, by decide +kernel⟩, List.mem_of_getElem? (i := 223) (by decide +kernel), List.mem_of_getElem? (i := 718) (by decide +kernel), List.mem_of_getElem? (i := 719) (by decide +kernel)⟩
theorem lw_p19 : lw_okq (⟨"NameNets$Parcels", "reduce", "()V"⟩, 8) := ⟨⟨by decide +kernel, by decide +kernel⟩, List.mem_of_getElem? (i := 223) (by decide +kernel), List.mem_of_getElem? (i := 722) (by decide +kernel), List.mem_of_getElem? (i := 723) (by decide +kernel)⟩
theorem lw_p20 : lw_okq (⟨"NameNets$Cuts", "search", "(IIIII)I"⟩, 5) := ⟨⟨by decide +kernel, by decide +kernel⟩, List.mem_of_getElem? (i := 258) (by decide +kernel), List.mem_of_getElem? (i := 734) (by decide +kernel), List.mem_of_getElem? (i := 735) (by decide +kernel)⟩
theorem lw_p21 : lw_okq (⟨"NameNets$Cuts", "reach", "(II)Z"⟩, 5) := ⟨⟨by decide +kernel, by decide +kernel⟩, List.mem_of_getElem? (i := 258) (by decide +kernel), List.mem_of_getElem? (i := 749) (by decide +kernel), List.mem_of_getElem? (i := 750) (by decide +kernel)⟩
theorem lw_p22 : lw_okq (⟨"NameNets$Cuts", "takeWay", "(II)V"⟩, 5) := ⟨⟨by decide +kernel, by decide +kernel⟩, List.mem_of_getElem? (i := 258) (by decide +kernel), List.mem_of_getElem? (i := 753) (by decide +kernel), List.mem_of_getElem? (i := 754) (by decide +kernel)⟩
theorem lw_p23 : lw_okq (⟨"NameNets$SmallNets", "seat", "(IIIII)Z"⟩, 3) := ⟨⟨by decide +kernel, by decide +kernel⟩, List.mem_of_getElem? (i := 280) (by decide +kernel), List.mem_of_getElem? (i := 771) (by decide +kernel), List.mem_of_getElem? (i := 772) (by decide +kernel)⟩
theorem lw_p24 : lw_okq (⟨"NameNets$SmallNets", "fits", "(III)Z"⟩, 3) := ⟨⟨by decide +kernel, by decide +kernel⟩, List.mem_of_getElem? (i := 280) (by decide +kernel), List.mem_of_getElem? (i := 775) (by decide +kernel), List.mem_of_getElem? (i := 776) (by decide +kernel)⟩
theorem lw_p25 : lw_okq (⟨"NameNets$SmallNets", "chooseGroups", "(II)V"⟩, 3) := ⟨⟨by decide +kernel, by decide +kernel⟩, List.mem_of_getElem? (i := 280) (by decide +kernel), List.mem_of_getElem? (i := 792) (by decide +kernel), List.mem_of_getElem? (i := 793) (by decide +kernel)⟩
theorem lw_p26 : lw_okq (⟨"NameNets$SmallNets", "isUniversal", "(II)Z"⟩, 3) := ⟨⟨by decide +kernel, by decide +kernel⟩, List.mem_of_getElem? (i := 280) (by decide +kernel), List.mem_of_getElem? (i := 800) (by decide +kernel), List.mem_of_getElem? (i := 801) (by decide +kernel)⟩
theorem lw_p27 : lw_okq (⟨"NameNets$Script", "skipBlanks", "()V"⟩, 13) := ⟨⟨by decide +kernel, by decide +kernel⟩, List.mem_of_getElem? (i := 296) (by decide +kernel), List.mem_of_getElem? (i := 831) (by decide +kernel), List.mem_of_getElem? (i := 832) (by decide +kernel)⟩
theorem lw_p28 : lw_okq (⟨"NameNets$Script", "readQuestion", "()V"⟩, 13) := ⟨⟨by decide +kernel, by decide +kernel⟩, List.mem_of_getElem? (i := 296) (by decide +kernel), List.mem_of_getElem? (i := 835) (by decide +kernel), List.mem_of_getElem? (i := 836) (by decide +kernel)⟩
theorem lw_p29 : lw_okq (⟨"NameNets$Script", "readWord", "()I"⟩, 13) := ⟨⟨by decide +kernel, by decide +kernel⟩, List.mem_of_getElem? (i := 296) (by decide +kernel), List.mem_of_getElem? (i := 839) (by decide +kernel), List.mem_of_getElem? (i := 840) (by decide +kernel)⟩
theorem lw_p30 : lw_okq (⟨"NameNets$Script", "isLetter", "(I)Z"⟩, 13) := ⟨⟨by decide +kernel, by decide +kernel⟩, List.mem_of_getElem? (i := 296) (by decide +kernel), List.mem_of_getElem? (i := 843) (by decide +kernel), List.mem_of_getElem? (i := 844) (by decide +kernel)⟩
theorem lw_p31 : lw_okq (⟨"NameNets$Script", "isWord", "(Ljava/lang/String;I)Z"⟩, 13) := ⟨⟨by decide +kernel, by decide +kernel⟩, List.mem_of_getElem? (i := 296) (by decide +kernel), List.mem_of_getElem? (i := 855) (by decide +kernel), List.mem_of_getElem? (i := 856) (by decide +kernel)⟩
def lw_privs_2 : List (MethodName × Nat) := [(⟨"NameNets$Page", "checkOf", "(I)I"⟩, 3), (⟨"NameNets$Parcels", "findStretch", "(LNameNets$Names;)V"⟩, 8), (⟨"NameNets$Parcels", "offer", "(IIII)V"⟩, 8), (⟨"NameNets$Parcels", "reduce", "()V"⟩, 8), (⟨"NameNets$Cuts", "search", "(IIIII)I"⟩, 5), (⟨"NameNets$Cuts", "reach", "(II)Z"⟩, 5), (⟨"NameNets$Cuts", "takeWay", "(II)V"⟩, 5), (⟨"NameNets$SmallNets", "seat", "(IIIII)Z"⟩, 3), (⟨"NameNets$SmallNets", "fits", "(III)Z"⟩, 3), (⟨"NameNets$SmallNets", "chooseGroups", "(II)V"⟩, 3), (⟨"NameNets$SmallNets", "isUniversal", "(II)Z"⟩, 3), (⟨"NameNets$Script", "skipBlanks", "()V"⟩, 13), (⟨"NameNets$Script", "readQuestion", "()V"⟩, 13), (⟨"NameNets$Script", "readWord", "()I"⟩, 13), (⟨"NameNets$Script", "isLetter", "(I)Z"⟩, 13), (⟨"NameNets$Script", "isWord", "(Ljava/lang/String;I)Z"⟩, 13)]
theorem lw_r2 : ∀ q ∈ lw_privs_2, lw_okq q := List.forall_mem_cons.mpr ⟨lw_p16, List.forall_mem_cons.mpr ⟨lw_p17, List.forall_mem_cons.mpr ⟨lw_p18, List.forall_mem_cons.mpr ⟨lw_p19, List.forall_mem_cons.mpr ⟨lw_p20, List.forall_mem_cons.mpr ⟨lw_p21, List.forall_mem_cons.mpr ⟨lw_p22, List.forall_mem_cons.mpr ⟨lw_p23, List.forall_mem_cons.mpr ⟨lw_p24, List.forall_mem_cons.mpr ⟨lw_p25, List.forall_mem_cons.mpr ⟨lw_p26, List.forall_mem_cons.mpr ⟨lw_p27, List.forall_mem_cons.mpr ⟨lw_p28, List.forall_mem_cons.mpr ⟨lw_p29, List.forall_mem_cons.mpr ⟨lw_p30, List.forall_mem_cons.mpr ⟨lw_p31, fun _ h => absurd h List.not_mem_nil⟩⟩⟩⟩⟩⟩⟩⟩⟩⟩⟩⟩⟩⟩⟩⟩
theorem lw_p32 : lw_okq (⟨"NameNets$Script", "fail", "(II)V"⟩, 13) := ⟨⟨by decide +kernel, by decide +kernel⟩, List.mem_of_getElem? (i := 296) (by decide +kernel), List.mem_of_getElem? (i := 907) (by decide +kernel), List.mem_of_getElem? (i := 908) (by decide +kernel)⟩
theorem lw_p33 : lw_okq (⟨"NameNets$Script", "readNumbers", "(I)V"⟩, 13) := ⟨⟨by decide +kernel, by decide +kernel⟩, List.mem_of_getElem? (i := 296) (by decide +kernel), List.mem_of_getElem? (i := 911) (by decide +kernel), List.mem_of_getElem? (i := 912) (by decide +kernel)⟩
theorem lw_p34 : lw_okq (⟨"NameNets$Script", "isFigure", "(I)Z"⟩, 13) := ⟨⟨by decide +kernel, by decide +kernel⟩, List.mem_of_getElem? (i := 296) (by decide +kernel), List.mem_of_getElem? (i := 915) (by decide +kernel), List.mem_of_getElem? (i := 916) (by decide +kernel)⟩
theorem lw_p35 : lw_okq (⟨"NameNets$Script", "readNumber", "(I)V"⟩, 13) := ⟨⟨by decide +kernel, by decide +kernel⟩, List.mem_of_getElem? (i := 296) (by decide +kernel), List.mem_of_getElem? (i := 919) (by decide +kernel), List.mem_of_getElem? (i := 920) (by decide +kernel)⟩
theorem lw_p36 : lw_okq (⟨"NameNets$Script", "keep", "(II)V"⟩, 13) := ⟨⟨by decide +kernel, by decide +kernel⟩, List.mem_of_getElem? (i := 296) (by decide +kernel), List.mem_of_getElem? (i := 925) (by decide +kernel), List.mem_of_getElem? (i := 926) (by decide +kernel)⟩
theorem lw_p37 : lw_okq (⟨"NameNets", "replyTo", "(IIII)I"⟩, 8) := ⟨⟨by decide +kernel, by decide +kernel⟩, List.mem_of_getElem? (i := 21) (by decide +kernel), List.mem_of_getElem? (i := 929) (by decide +kernel), List.mem_of_getElem? (i := 930) (by decide +kernel)⟩
theorem lw_p38 : lw_okq (⟨"NameNetsModel", "noPost", "(I)Z"⟩, 40) := ⟨⟨by decide +kernel, by decide +kernel⟩, List.mem_of_getElem? (i := 941) (by decide +kernel), List.mem_of_getElem? (i := 1085) (by decide +kernel), List.mem_of_getElem? (i := 1086) (by decide +kernel)⟩
theorem lw_p39 : lw_okq (⟨"NameNetsModel", "lineOf", "(II)I"⟩, 40) := ⟨⟨by decide +kernel, by decide +kernel⟩, List.mem_of_getElem? (i := 941) (by decide +kernel), List.mem_of_getElem? (i := 1089) (by decide +kernel), List.mem_of_getElem? (i := 1090) (by decide +kernel)⟩
theorem lw_p40 : lw_okq (⟨"NameNetsModel", "noLine", "(I)Z"⟩, 40) := ⟨⟨by decide +kernel, by decide +kernel⟩, List.mem_of_getElem? (i := 941) (by decide +kernel), List.mem_of_getElem? (i := 1097) (by decide +kernel), List.mem_of_getElem? (i := 1098) (by decide +kernel)⟩
theorem lw_p41 : lw_okq (⟨"NameNetsModel", "findTree", "()V"⟩, 40) := ⟨⟨by decide +kernel, by decide +kernel⟩, List.mem_of_getElem? (i := 941) (by decide +kernel), List.mem_of_getElem? (i := 1105) (by decide +kernel), List.mem_of_getElem? (i := 1106) (by decide +kernel)⟩
theorem lw_p42 : lw_okq (⟨"NameNetsModel", "grow", "(I)V"⟩, 40) := ⟨⟨by decide +kernel, by decide +kernel⟩, List.mem_of_getElem? (i := 941) (by decide +kernel), List.mem_of_getElem? (i := 1109) (by decide +kernel), List.mem_of_getElem? (i := 1110) (by decide +kernel)⟩
theorem lw_p43 : lw_okq (⟨"NameNetsModel", "degree", "(I)I"⟩, 40) := ⟨⟨by decide +kernel, by decide +kernel⟩, List.mem_of_getElem? (i := 941) (by decide +kernel), List.mem_of_getElem? (i := 1113) (by decide +kernel), List.mem_of_getElem? (i := 1114) (by decide +kernel)⟩
theorem lw_p44 : lw_okq (⟨"NameNetsModel", "findTurns", "()V"⟩, 40) := ⟨⟨by decide +kernel, by decide +kernel⟩, List.mem_of_getElem? (i := 941) (by decide +kernel), List.mem_of_getElem? (i := 1124) (by decide +kernel), List.mem_of_getElem? (i := 1125) (by decide +kernel)⟩
theorem lw_p45 : lw_okq (⟨"NameNetsModel", "findRanks", "()V"⟩, 40) := ⟨⟨by decide +kernel, by decide +kernel⟩, List.mem_of_getElem? (i := 941) (by decide +kernel), List.mem_of_getElem? (i := 1128) (by decide +kernel), List.mem_of_getElem? (i := 1129) (by decide +kernel)⟩
theorem lw_p46 : lw_okq (⟨"NameNetsModel", "isTreeLine", "(I)Z"⟩, 40) := ⟨⟨by decide +kernel, by decide +kernel⟩, List.mem_of_getElem? (i := 941) (by decide +kernel), List.mem_of_getElem? (i := 1136) (by decide +kernel), List.mem_of_getElem? (i := 1137) (by decide +kernel)⟩
theorem lw_p47 : lw_okq (⟨"NameNetsModel", "lineName", "(I)I"⟩, 40) := ⟨⟨by decide +kernel, by decide +kernel⟩, List.mem_of_getElem? (i := 941) (by decide +kernel), List.mem_of_getElem? (i := 1140) (by decide +kernel), List.mem_of_getElem? (i := 1141) (by decide +kernel)⟩
def lw_privs_3 : List (MethodName × Nat) := [(⟨"NameNets$Script", "fail", "(II)V"⟩, 13), (⟨"NameNets$Script", "readNumbers", "(I)V"⟩, 13), (⟨"NameNets$Script", "isFigure", "(I)Z"⟩, 13), (⟨"NameNets$Script", "readNumber", "(I)V"⟩, 13), (⟨"NameNets$Script", "keep", "(II)V"⟩, 13), (⟨"NameNets", "replyTo", "(IIII)I"⟩, 8), (⟨"NameNetsModel", "noPost", "(I)Z"⟩, 40), (⟨"NameNetsModel", "lineOf", "(II)I"⟩, 40), (⟨"NameNetsModel", "noLine", "(I)Z"⟩, 40), (⟨"NameNetsModel", "findTree", "()V"⟩, 40), (⟨"NameNetsModel", "grow", "(I)V"⟩, 40), (⟨"NameNetsModel", "degree", "(I)I"⟩, 40), (⟨"NameNetsModel", "findTurns", "()V"⟩, 40), (⟨"NameNetsModel", "findRanks", "()V"⟩, 40), (⟨"NameNetsModel", "isTreeLine", "(I)Z"⟩, 40), (⟨"NameNetsModel", "lineName", "(I)I"⟩, 40)]
theorem lw_r3 : ∀ q ∈ lw_privs_3, lw_okq q := List.forall_mem_cons.mpr ⟨lw_p32, List.forall_mem_cons.mpr ⟨lw_p33, List.forall_mem_cons.mpr ⟨lw_p34, List.forall_mem_cons.mpr ⟨lw_p35, List.forall_mem_cons.mpr ⟨lw_p36, List.forall_mem_cons.mpr ⟨lw_p37, List.forall_mem_cons.mpr ⟨lw_p38, List.forall_mem_cons.mpr ⟨lw_p39, List.forall_mem_cons.mpr ⟨lw_p40, List.forall_mem_cons.mpr ⟨lw_p41, List.forall_mem_cons.mpr ⟨lw_p42, List.forall_mem_cons.mpr ⟨lw_p43, List.forall_mem_cons.mpr ⟨lw_p44, List.forall_mem_cons.mpr ⟨lw_p45, List.forall_mem_cons.mpr ⟨lw_p46, List.forall_mem_cons.mpr ⟨lw_p47, fun _ h => absurd h List.not_mem_nil⟩⟩⟩⟩⟩⟩⟩⟩⟩⟩⟩⟩⟩⟩⟩⟩
theorem lw_p48 : lw_okq (⟨"NameNetsModel", "wayUp", "(I)I"⟩, 40) := ⟨⟨by decide +kernel, by decide +kernel⟩, List.mem_of_getElem? (i := 941) (by decide +kernel), List.mem_of_getElem? (i := 1144) (by decide +kernel), List.mem_of_getElem? (i := 1145) (by decide +kernel)⟩
theorem lw_p49 : lw_okq (⟨"NameNetsModel", "findNames", "(I)V"⟩, 40) := ⟨⟨by decide +kernel, by decide +kernel⟩, List.mem_of_getElem? (i := 941) (by decide +kernel), List.mem_of_getElem? (i := 1153) (by decide +kernel), List.mem_of_getElem? (i := 1154) (by decide +kernel)⟩
theorem lw_p50 : lw_okq (⟨"NameNetsModel", "findSpans", "()V"⟩, 40) := ⟨⟨by decide +kernel, by decide +kernel⟩, List.mem_of_getElem? (i := 941) (by decide +kernel), List.mem_of_getElem? (i := 1157) (by decide +kernel), List.mem_of_getElem? (i := 1158) (by decide +kernel)⟩
theorem lw_p51 : lw_okq (⟨"NameNetsModel", "goDown", "(II)I"⟩, 40) := ⟨⟨by decide +kernel, by decide +kernel⟩, List.mem_of_getElem? (i := 941) (by decide +kernel), List.mem_of_getElem? (i := 1161) (by decide +kernel), List.mem_of_getElem? (i := 1162) (by decide +kernel)⟩
theorem lw_p52 : lw_okq (⟨"NameNetsModel", "findRows", "()V"⟩, 40) := ⟨⟨by decide +kernel, by decide +kernel⟩, List.mem_of_getElem? (i := 941) (by decide +kernel), List.mem_of_getElem? (i := 1165) (by decide +kernel), List.mem_of_getElem? (i := 1166) (by decide +kernel)⟩
theorem lw_p53 : lw_okq (⟨"NameNetsModel", "put", "(II)V"⟩, 40) := ⟨⟨by decide +kernel, by decide +kernel⟩, List.mem_of_getElem? (i := 941) (by decide +kernel), List.mem_of_getElem? (i := 1169) (by decide +kernel), List.mem_of_getElem? (i := 1170) (by decide +kernel)⟩
theorem lw_p54 : lw_okq (⟨"NameNetsModel", "findHubs", "()V"⟩, 40) := ⟨⟨by decide +kernel, by decide +kernel⟩, List.mem_of_getElem? (i := 941) (by decide +kernel), List.mem_of_getElem? (i := 1173) (by decide +kernel), List.mem_of_getElem? (i := 1174) (by decide +kernel)⟩
theorem lw_p55 : lw_okq (⟨"NameNetsModel", "goFrom", "(I)V"⟩, 40) := ⟨⟨by decide +kernel, by decide +kernel⟩, List.mem_of_getElem? (i := 941) (by decide +kernel), List.mem_of_getElem? (i := 1177) (by decide +kernel), List.mem_of_getElem? (i := 1178) (by decide +kernel)⟩
theorem lw_p56 : lw_okq (⟨"NameNetsModel", "farOf", "(II)I"⟩, 40) := ⟨⟨by decide +kernel, by decide +kernel⟩, List.mem_of_getElem? (i := 941) (by decide +kernel), List.mem_of_getElem? (i := 1181) (by decide +kernel), List.mem_of_getElem? (i := 1182) (by decide +kernel)⟩
theorem lw_p57 : lw_okq (⟨"NameNetsModel", "bitsOf", "(II)I"⟩, 40) := ⟨⟨by decide +kernel, by decide +kernel⟩, List.mem_of_getElem? (i := 941) (by decide +kernel), List.mem_of_getElem? (i := 1190) (by decide +kernel), List.mem_of_getElem? (i := 1191) (by decide +kernel)⟩
theorem lw_p58 : lw_okq (⟨"NameNetsModel", "sayOf", "(III)I"⟩, 40) := ⟨⟨by decide +kernel, by decide +kernel⟩, List.mem_of_getElem? (i := 941) (by decide +kernel), List.mem_of_getElem? (i := 1198) (by decide +kernel), List.mem_of_getElem? (i := 1199) (by decide +kernel)⟩
theorem lw_p59 : lw_okq (⟨"NameNetsModel", "isParted", "(III)Z"⟩, 40) := ⟨⟨by decide +kernel, by decide +kernel⟩, List.mem_of_getElem? (i := 941) (by decide +kernel), List.mem_of_getElem? (i := 1209) (by decide +kernel), List.mem_of_getElem? (i := 1210) (by decide +kernel)⟩
theorem lw_p60 : lw_okq (⟨"NameNetsModel", "staleSet", "(I)I"⟩, 40) := ⟨⟨by decide +kernel, by decide +kernel⟩, List.mem_of_getElem? (i := 941) (by decide +kernel), List.mem_of_getElem? (i := 1217) (by decide +kernel), List.mem_of_getElem? (i := 1218) (by decide +kernel)⟩
theorem lw_p61 : lw_okq (⟨"NameNetsModel", "isStale", "(II)Z"⟩, 40) := ⟨⟨by decide +kernel, by decide +kernel⟩, List.mem_of_getElem? (i := 941) (by decide +kernel), List.mem_of_getElem? (i := 1221) (by decide +kernel), List.mem_of_getElem? (i := 1222) (by decide +kernel)⟩
theorem lw_p62 : lw_okq (⟨"NameNetsModel", "isInBook", "(II)Z"⟩, 40) := ⟨⟨by decide +kernel, by decide +kernel⟩, List.mem_of_getElem? (i := 941) (by decide +kernel), List.mem_of_getElem? (i := 1225) (by decide +kernel), List.mem_of_getElem? (i := 1226) (by decide +kernel)⟩
theorem lw_p63 : lw_okq (⟨"NameNetsModel", "bookAt", "(II)I"⟩, 40) := ⟨⟨by decide +kernel, by decide +kernel⟩, List.mem_of_getElem? (i := 941) (by decide +kernel), List.mem_of_getElem? (i := 1229) (by decide +kernel), List.mem_of_getElem? (i := 1230) (by decide +kernel)⟩
def lw_privs_4 : List (MethodName × Nat) := [(⟨"NameNetsModel", "wayUp", "(I)I"⟩, 40), (⟨"NameNetsModel", "findNames", "(I)V"⟩, 40), (⟨"NameNetsModel", "findSpans", "()V"⟩, 40), (⟨"NameNetsModel", "goDown", "(II)I"⟩, 40), (⟨"NameNetsModel", "findRows", "()V"⟩, 40), (⟨"NameNetsModel", "put", "(II)V"⟩, 40), (⟨"NameNetsModel", "findHubs", "()V"⟩, 40), (⟨"NameNetsModel", "goFrom", "(I)V"⟩, 40), (⟨"NameNetsModel", "farOf", "(II)I"⟩, 40), (⟨"NameNetsModel", "bitsOf", "(II)I"⟩, 40), (⟨"NameNetsModel", "sayOf", "(III)I"⟩, 40), (⟨"NameNetsModel", "isParted", "(III)Z"⟩, 40), (⟨"NameNetsModel", "staleSet", "(I)I"⟩, 40), (⟨"NameNetsModel", "isStale", "(II)Z"⟩, 40), (⟨"NameNetsModel", "isInBook", "(II)Z"⟩, 40), (⟨"NameNetsModel", "bookAt", "(II)I"⟩, 40)]
theorem lw_r4 : ∀ q ∈ lw_privs_4, lw_okq q := List.forall_mem_cons.mpr ⟨lw_p48, List.forall_mem_cons.mpr ⟨lw_p49, List.forall_mem_cons.mpr ⟨lw_p50, List.forall_mem_cons.mpr ⟨lw_p51, List.forall_mem_cons.mpr ⟨lw_p52, List.forall_mem_cons.mpr ⟨lw_p53, List.forall_mem_cons.mpr ⟨lw_p54, List.forall_mem_cons.mpr ⟨lw_p55, List.forall_mem_cons.mpr ⟨lw_p56, List.forall_mem_cons.mpr ⟨lw_p57, List.forall_mem_cons.mpr ⟨lw_p58, List.forall_mem_cons.mpr ⟨lw_p59, List.forall_mem_cons.mpr ⟨lw_p60, List.forall_mem_cons.mpr ⟨lw_p61, List.forall_mem_cons.mpr ⟨lw_p62, List.forall_mem_cons.mpr ⟨lw_p63, fun _ h => absurd h List.not_mem_nil⟩⟩⟩⟩⟩⟩⟩⟩⟩⟩⟩⟩⟩⟩⟩⟩
theorem lw_p64 : lw_okq (⟨"NameNetsModel", "checkOf", "(II)I"⟩, 40) := ⟨⟨by decide +kernel, by decide +kernel⟩, List.mem_of_getElem? (i := 941) (by decide +kernel), List.mem_of_getElem? (i := 1233) (by decide +kernel), List.mem_of_getElem? (i := 1234) (by decide +kernel)⟩
theorem lw_p65 : lw_okq (⟨"NameNetsModel", "isDamaged", "(II)Z"⟩, 40) := ⟨⟨by decide +kernel, by decide +kernel⟩, List.mem_of_getElem? (i := 941) (by decide +kernel), List.mem_of_getElem? (i := 1250) (by decide +kernel), List.mem_of_getElem? (i := 1251) (by decide +kernel)⟩
theorem lw_p66 : lw_okq (⟨"NameNetsModel", "nextOf", "(II)I"⟩, 40) := ⟨⟨by decide +kernel, by decide +kernel⟩, List.mem_of_getElem? (i := 941) (by decide +kernel), List.mem_of_getElem? (i := 1266) (by decide +kernel), List.mem_of_getElem? (i := 1267) (by decide +kernel)⟩
theorem lw_p67 : lw_okq (⟨"NameNetsModel", "goesOf", "(II)I"⟩, 40) := ⟨⟨by decide +kernel, by decide +kernel⟩, List.mem_of_getElem? (i := 941) (by decide +kernel), List.mem_of_getElem? (i := 1274) (by decide +kernel), List.mem_of_getElem? (i := 1275) (by decide +kernel)⟩
theorem lw_p68 : lw_okq (⟨"NameNetsModel", "findWays", "(I)V"⟩, 40) := ⟨⟨by decide +kernel, by decide +kernel⟩, List.mem_of_getElem? (i := 941) (by decide +kernel), List.mem_of_getElem? (i := 1282) (by decide +kernel), List.mem_of_getElem? (i := 1283) (by decide +kernel)⟩
theorem lw_p69 : lw_okq (⟨"NameNetsModel", "oneMore", "(II)Z"⟩, 40) := ⟨⟨by decide +kernel, by decide +kernel⟩, List.mem_of_getElem? (i := 941) (by decide +kernel), List.mem_of_getElem? (i := 1294) (by decide +kernel), List.mem_of_getElem? (i := 1295) (by decide +kernel)⟩
theorem lw_p70 : lw_okq (⟨"NameNetsModel", "holdsOne", "(IIII)Z"⟩, 40) := ⟨⟨by decide +kernel, by decide +kernel⟩, List.mem_of_getElem? (i := 941) (by decide +kernel), List.mem_of_getElem? (i := 1306) (by decide +kernel), List.mem_of_getElem? (i := 1307) (by decide +kernel)⟩
theorem lw_p71 : lw_okq (⟨"NameNetsModel", "isPick", "(IIIII)Z"⟩, 40) := ⟨⟨by decide +kernel, by decide +kernel⟩, List.mem_of_getElem? (i := 941) (by decide +kernel), List.mem_of_getElem? (i := 1310) (by decide +kernel), List.mem_of_getElem? (i := 1311) (by decide +kernel)⟩
theorem lw_p72 : lw_okq (⟨"NameNetsModel", "isUniversal", "(III)Z"⟩, 40) := ⟨⟨by decide +kernel, by decide +kernel⟩, List.mem_of_getElem? (i := 941) (by decide +kernel), List.mem_of_getElem? (i := 1321) (by decide +kernel), List.mem_of_getElem? (i := 1322) (by decide +kernel)⟩
theorem lw_p73 : lw_okq (⟨"NameNetsModel", "here", "()I"⟩, 40) := ⟨⟨by decide +kernel, by decide +kernel⟩, List.mem_of_getElem? (i := 941) (by decide +kernel), List.mem_of_getElem? (i := 1339) (by decide +kernel), List.mem_of_getElem? (i := 1340) (by decide +kernel)⟩
theorem lw_p74 : lw_okq (⟨"NameNetsModel", "readQuestion", "()V"⟩, 40) := ⟨⟨by decide +kernel, by decide +kernel⟩, List.mem_of_getElem? (i := 941) (by decide +kernel), List.mem_of_getElem? (i := 1343) (by decide +kernel), List.mem_of_getElem? (i := 1344) (by decide +kernel)⟩
theorem lw_p75 : lw_okq (⟨"NameNetsModel", "takeQuestion", "()I"⟩, 40) := ⟨⟨by decide +kernel, by decide +kernel⟩, List.mem_of_getElem? (i := 941) (by decide +kernel), List.mem_of_getElem? (i := 1347) (by decide +kernel), List.mem_of_getElem? (i := 1348) (by decide +kernel)⟩
theorem lw_p76 : lw_okq (⟨"NameNetsModel", "isWord", "(IIIIIII)Z"⟩, 40) := ⟨⟨by decide +kernel, by decide +kernel⟩, List.mem_of_getElem? (i := 941) (by decide +kernel), List.mem_of_getElem? (i := 1353) (by decide +kernel), List.mem_of_getElem? (i := 1354) (by decide +kernel)⟩
theorem lw_p77 : lw_okq (⟨"NameNetsModel", "want", "(ZII)Z"⟩, 40) := ⟨⟨by decide +kernel, by decide +kernel⟩, List.mem_of_getElem? (i := 941) (by decide +kernel), List.mem_of_getElem? (i := 1357) (by decide +kernel), List.mem_of_getElem? (i := 1358) (by decide +kernel)⟩
theorem lw_p78 : lw_okq (⟨"NameNetsModel", "takeNumber", "(I)V"⟩, 40) := ⟨⟨by decide +kernel, by decide +kernel⟩, List.mem_of_getElem? (i := 941) (by decide +kernel), List.mem_of_getElem? (i := 1361) (by decide +kernel), List.mem_of_getElem? (i := 1362) (by decide +kernel)⟩
theorem lw_p79 : lw_okq (⟨"NameNetsModel", "answerOf", "(II)I"⟩, 40) := ⟨⟨by decide +kernel, by decide +kernel⟩, List.mem_of_getElem? (i := 941) (by decide +kernel), List.mem_of_getElem? (i := 1367) (by decide +kernel), List.mem_of_getElem? (i := 1368) (by decide +kernel)⟩
def lw_privs_5 : List (MethodName × Nat) := [(⟨"NameNetsModel", "checkOf", "(II)I"⟩, 40), (⟨"NameNetsModel", "isDamaged", "(II)Z"⟩, 40), (⟨"NameNetsModel", "nextOf", "(II)I"⟩, 40), (⟨"NameNetsModel", "goesOf", "(II)I"⟩, 40), (⟨"NameNetsModel", "findWays", "(I)V"⟩, 40), (⟨"NameNetsModel", "oneMore", "(II)Z"⟩, 40), (⟨"NameNetsModel", "holdsOne", "(IIII)Z"⟩, 40), (⟨"NameNetsModel", "isPick", "(IIIII)Z"⟩, 40), (⟨"NameNetsModel", "isUniversal", "(III)Z"⟩, 40), (⟨"NameNetsModel", "here", "()I"⟩, 40), (⟨"NameNetsModel", "readQuestion", "()V"⟩, 40), (⟨"NameNetsModel", "takeQuestion", "()I"⟩, 40), (⟨"NameNetsModel", "isWord", "(IIIIIII)Z"⟩, 40), (⟨"NameNetsModel", "want", "(ZII)Z"⟩, 40), (⟨"NameNetsModel", "takeNumber", "(I)V"⟩, 40), (⟨"NameNetsModel", "answerOf", "(II)I"⟩, 40)]
theorem lw_r5 : ∀ q ∈ lw_privs_5, lw_okq q := List.forall_mem_cons.mpr ⟨lw_p64, List.forall_mem_cons.mpr ⟨lw_p65, List.forall_mem_cons.mpr ⟨lw_p66, List.forall_mem_cons.mpr ⟨lw_p67, List.forall_mem_cons.mpr ⟨lw_p68, List.forall_mem_cons.mpr ⟨lw_p69, List.forall_mem_cons.mpr ⟨lw_p70, List.forall_mem_cons.mpr ⟨lw_p71, List.forall_mem_cons.mpr ⟨lw_p72, List.forall_mem_cons.mpr ⟨lw_p73, List.forall_mem_cons.mpr ⟨lw_p74, List.forall_mem_cons.mpr ⟨lw_p75, List.forall_mem_cons.mpr ⟨lw_p76, List.forall_mem_cons.mpr ⟨lw_p77, List.forall_mem_cons.mpr ⟨lw_p78, List.forall_mem_cons.mpr ⟨lw_p79, fun _ h => absurd h List.not_mem_nil⟩⟩⟩⟩⟩⟩⟩⟩⟩⟩⟩⟩⟩⟩⟩⟩
def lw_privs : List (MethodName × Nat) := lw_privs_1 ++ (lw_privs_2 ++ (lw_privs_3 ++ (lw_privs_4 ++ (lw_privs_5))))
def lw_tbl : List Cond := k2_sels lw_privs ++ tables_1
theorem lw_privs_ok : ∀ q ∈ lw_privs, lw_okq q := by
  show ∀ q ∈ lw_privs_1 ++ (lw_privs_2 ++ (lw_privs_3 ++ (lw_privs_4 ++ (lw_privs_5)))), lw_okq q
  exact List.forall_mem_append.mpr ⟨lw_r1, List.forall_mem_append.mpr ⟨lw_r2, List.forall_mem_append.mpr ⟨lw_r3, List.forall_mem_append.mpr ⟨lw_r4, lw_r5⟩⟩⟩⟩
def RX0 : String := "NameNets$Cuts"
def TX0 : u_T := fun k => match k with
  | 0 => ("NameNets$Cuts", "net", "LNameNets$Net;", true)
  | 1 => ("NameNets$Cuts", "tree", "LNameNets$Tree;", true)
  | 2 => ("NameNets$Cuts", "open", "[I", true)
  | 3 => ("NameNets$Cuts", "queue", "[I", true)
  | _ => ("NameNets$Cuts", "cameFrom", "[I", true)
def tyX0 : Nat → FieldType := fun k => match k with
  | 0 => .object "NameNets$Net"
  | 1 => .object "NameNets$Tree"
  | 2 => .array .int
  | 3 => .array .int
  | _ => .array .int
abbrev wsX00 : List Cond := u_ws RX0 TX0 5
theorem nmX0 : ∀ a, a < 5 → ∀ b, b < 5 → a ≠ b → (TX0 a).2.1 ≠ (TX0 b).2.1 := by decide +kernel
theorem tyX0_ok : ∀ k, k < 5 → parseFieldDescriptor (TX0 k).2.2.1 = some (tyX0 k) := by decide +kernel
abbrev cX0_init : ByteArray := prog_2_method_1_code
def yX0_init : MethodName := ⟨RX0, "<init>", "(LNameNets$Net;LNameNets$Tree;)V"⟩
abbrev cX0_parts : ByteArray := prog_2_method_2_code
def yX0_parts : MethodName := ⟨RX0, "parts", "(III)Z"⟩
abbrev cX0_namesGiveNothing : ByteArray := prog_2_method_3_code
def yX0_namesGiveNothing : MethodName := ⟨RX0, "namesGiveNothing", "(I)Z"⟩
abbrev cX0_fewest : ByteArray := prog_2_method_4_code
def yX0_fewest : MethodName := ⟨RX0, "fewest", "(II)I"⟩
abbrev cX0_search : ByteArray := prog_2_method_5_code
def yX0_search : MethodName := ⟨RX0, "search", "(IIIII)I"⟩
abbrev cX0_separateWays : ByteArray := prog_2_method_6_code
def yX0_separateWays : MethodName := ⟨RX0, "separateWays", "(II)I"⟩
abbrev cX0_reach : ByteArray := prog_2_method_7_code
def yX0_reach : MethodName := ⟨RX0, "reach", "(II)Z"⟩
abbrev cX0_takeWay : ByteArray := prog_2_method_8_code
def yX0_takeWay : MethodName := ⟨RX0, "takeWay", "(II)V"⟩
def RX1 : String := "NameNets$Labels"
def TX1 : u_T := fun k => match k with
  | 0 => ("NameNets$Labels", "net", "LNameNets$Net;", true)
  | 1 => ("NameNets$Labels", "tree", "LNameNets$Tree;", true)
  | 2 => ("NameNets$Labels", "rows", "[LNameNets$Names;", true)
  | 3 => ("NameNets$Labels", "madeAt", "[I", true)
  | 4 => ("NameNets$Labels", "turns", "[I", true)
  | 5 => ("NameNets$Labels", "taken", "[I", true)
  | 6 => ("NameNets$Labels", "ranks", "[I", true)
  | 7 => ("NameNets$Labels", "hubs", "[I", true)
  | 8 => ("NameNets$Labels", "queue", "[I", true)
  | _ => ("NameNets$Labels", "reached", "[I", true)
def tyX1 : Nat → FieldType := fun k => match k with
  | 0 => .object "NameNets$Net"
  | 1 => .object "NameNets$Tree"
  | 2 => .array (.object "NameNets$Names")
  | 3 => .array .int
  | 4 => .array .int
  | 5 => .array .int
  | 6 => .array .int
  | 7 => .array .int
  | 8 => .array .int
  | _ => .array .int
abbrev wsX10 : List Cond := u_ws RX1 TX1 10
theorem nmX1 : ∀ a, a < 10 → ∀ b, b < 10 → a ≠ b → (TX1 a).2.1 ≠ (TX1 b).2.1 := by decide +kernel
theorem tyX1_ok : ∀ k, k < 10 → parseFieldDescriptor (TX1 k).2.2.1 = some (tyX1 k) := by decide +kernel
abbrev cX1_init : ByteArray := prog_3_method_1_code
def yX1_init : MethodName := ⟨RX1, "<init>", "(LNameNets$Net;LNameNets$Tree;)V"⟩
abbrev cX1_now : ByteArray := prog_3_method_2_code
def yX1_now : MethodName := ⟨RX1, "now", "(I)LNameNets$Names;"⟩
abbrev cX1_turnOf : ByteArray := prog_3_method_3_code
def yX1_turnOf : MethodName := ⟨RX1, "turnOf", "(I)I"⟩
abbrev cX1_rankOf : ByteArray := prog_3_method_4_code
def yX1_rankOf : MethodName := ⟨RX1, "rankOf", "(I)I"⟩
abbrev cX1_nameAbove : ByteArray := prog_3_method_5_code
def yX1_nameAbove : MethodName := ⟨RX1, "nameAbove", "(LNameNets$Names;)V"⟩
abbrev cX1_nameJoined : ByteArray := prog_3_method_6_code
def yX1_nameJoined : MethodName := ⟨RX1, "nameJoined", "(LNameNets$Names;)V"⟩
abbrev cX1_fewestLines : ByteArray := prog_3_method_7_code
def yX1_fewestLines : MethodName := ⟨RX1, "fewestLines", "(I)I"⟩
abbrev cX1_nameFar : ByteArray := prog_3_method_8_code
def yX1_nameFar : MethodName := ⟨RX1, "nameFar", "(LNameNets$Names;)V"⟩
abbrev cX1_mostLines : ByteArray := prog_3_method_9_code
def yX1_mostLines : MethodName := ⟨RX1, "mostLines", "(I)I"⟩
abbrev cX1_spread : ByteArray := prog_3_method_10_code
def yX1_spread : MethodName := ⟨RX1, "spread", "(LNameNets$Names;I)V"⟩
def RX2 : String := "NameNets$Names"
def TX2 : u_T := fun k => match k with
  | 0 => ("NameNets$Names", "kind", "I", true)
  | 1 => ("NameNets$Names", "width", "I", true)
  | 2 => ("NameNets$Names", "posts", "I", false)
  | 3 => ("NameNets$Names", "sizes", "[I", true)
  | _ => ("NameNets$Names", "numbers", "[I", true)
def tyX2 : Nat → FieldType := fun k => match k with
  | 0 => .int
  | 1 => .int
  | 2 => .int
  | 3 => .array .int
  | _ => .array .int
abbrev wsX20 : List Cond := u_ws RX2 TX2 5
theorem nmX2 : ∀ a, a < 5 → ∀ b, b < 5 → a ≠ b → (TX2 a).2.1 ≠ (TX2 b).2.1 := by decide +kernel
theorem tyX2_ok : ∀ k, k < 5 → parseFieldDescriptor (TX2 k).2.2.1 = some (tyX2 k) := by decide +kernel
abbrev cX2_init : ByteArray := prog_4_method_1_code
def yX2_init : MethodName := ⟨RX2, "<init>", "(I)V"⟩
abbrev cX2_begin : ByteArray := prog_4_method_2_code
def yX2_begin : MethodName := ⟨RX2, "begin", "(I)V"⟩
abbrev cX2_has : ByteArray := prog_4_method_3_code
def yX2_has : MethodName := ⟨RX2, "has", "(II)Z"⟩
abbrev cX2_number : ByteArray := prog_4_method_4_code
def yX2_number : MethodName := ⟨RX2, "number", "(II)I"⟩
abbrev cX2_put : ByteArray := prog_4_method_5_code
def yX2_put : MethodName := ⟨RX2, "put", "(III)V"⟩
abbrev cX2_append : ByteArray := prog_4_method_6_code
def yX2_append : MethodName := ⟨RX2, "append", "(II)V"⟩
abbrev cX2_copy : ByteArray := prog_4_method_7_code
def yX2_copy : MethodName := ⟨RX2, "copy", "(LNameNets$Names;)V"⟩
abbrev cX2_isLike : ByteArray := prog_4_method_8_code
def yX2_isLike : MethodName := ⟨RX2, "isLike", "(LNameNets$Names;I)Z"⟩
abbrev cX2_reply : ByteArray := prog_4_method_9_code
def yX2_reply : MethodName := ⟨RX2, "reply", "(II)I"⟩
abbrev cX2_isAbove : ByteArray := prog_4_method_10_code
def yX2_isAbove : MethodName := ⟨RX2, "isAbove", "(II)Z"⟩
abbrev cX2_standsBehind : ByteArray := prog_4_method_11_code
def yX2_standsBehind : MethodName := ⟨RX2, "standsBehind", "(II)Z"⟩
abbrev cX2_distance : ByteArray := prog_4_method_12_code
def yX2_distance : MethodName := ⟨RX2, "distance", "(II)I"⟩
def RX3 : String := "NameNets$Net"
def TX3 : u_T := fun k => match k with
  | 0 => ("NameNets$Net", "posts", "I", false)
  | 1 => ("NameNets$Net", "size", "I", false)
  | 2 => ("NameNets$Net", "changes", "I", false)
  | 3 => ("NameNets$Net", "from", "[I", true)
  | 4 => ("NameNets$Net", "to", "[I", true)
  | _ => ("NameNets$Net", "near", "[I", true)
def tyX3 : Nat → FieldType := fun k => match k with
  | 0 => .int
  | 1 => .int
  | 2 => .int
  | 3 => .array .int
  | 4 => .array .int
  | _ => .array .int
abbrev wsX30 : List Cond := u_ws RX3 TX3 6
theorem nmX3 : ∀ a, a < 6 → ∀ b, b < 6 → a ≠ b → (TX3 a).2.1 ≠ (TX3 b).2.1 := by decide +kernel
theorem tyX3_ok : ∀ k, k < 6 → parseFieldDescriptor (TX3 k).2.2.1 = some (tyX3 k) := by decide +kernel
abbrev cX3_init : ByteArray := prog_5_method_1_code
def yX3_init : MethodName := ⟨RX3, "<init>", "()V"⟩
abbrev cX3_hasPost : ByteArray := prog_5_method_2_code
def yX3_hasPost : MethodName := ⟨RX3, "hasPost", "(I)Z"⟩
abbrev cX3_hasPosts : ByteArray := prog_5_method_3_code
def yX3_hasPosts : MethodName := ⟨RX3, "hasPosts", "(II)Z"⟩
abbrev cX3_hasLine : ByteArray := prog_5_method_4_code
def yX3_hasLine : MethodName := ⟨RX3, "hasLine", "(I)Z"⟩
abbrev cX3_hasLines : ByteArray := prog_5_method_5_code
def yX3_hasLines : MethodName := ⟨RX3, "hasLines", "(I)Z"⟩
abbrev cX3_joins : ByteArray := prog_5_method_6_code
def yX3_joins : MethodName := ⟨RX3, "joins", "(II)Z"⟩
abbrev cX3_degree : ByteArray := prog_5_method_7_code
def yX3_degree : MethodName := ⟨RX3, "degree", "(I)I"⟩
abbrev cX3_mostLines : ByteArray := prog_5_method_8_code
def yX3_mostLines : MethodName := ⟨RX3, "mostLines", "()I"⟩
abbrev cX3_lineBetween : ByteArray := prog_5_method_9_code
def yX3_lineBetween : MethodName := ⟨RX3, "lineBetween", "(II)I"⟩
abbrev cX3_begin : ByteArray := prog_5_method_10_code
def yX3_begin : MethodName := ⟨RX3, "begin", "(I)V"⟩
abbrev cX3_addPost : ByteArray := prog_5_method_11_code
def yX3_addPost : MethodName := ⟨RX3, "addPost", "()I"⟩
abbrev cX3_addLine : ByteArray := prog_5_method_12_code
def yX3_addLine : MethodName := ⟨RX3, "addLine", "(II)I"⟩
abbrev cX3_removeLine : ByteArray := prog_5_method_13_code
def yX3_removeLine : MethodName := ⟨RX3, "removeLine", "(I)V"⟩
def RX4 : String := "NameNets$Page"
def TX4 : u_T := fun k => match k with
  | 0 => ("NameNets$Page", "learned", "Z", false)
  | 1 => ("NameNets$Page", "names", "LNameNets$Names;", true)
  | _ => ("NameNets$Page", "checks", "[I", true)
def tyX4 : Nat → FieldType := fun k => match k with
  | 0 => .boolean
  | 1 => .object "NameNets$Names"
  | _ => .array .int
abbrev wsX40 : List Cond := u_ws RX4 TX4 3
theorem nmX4 : ∀ a, a < 3 → ∀ b, b < 3 → a ≠ b → (TX4 a).2.1 ≠ (TX4 b).2.1 := by decide +kernel
theorem tyX4_ok : ∀ k, k < 3 → parseFieldDescriptor (TX4 k).2.2.1 = some (tyX4 k) := by decide +kernel
abbrev cX4_init : ByteArray := prog_6_method_1_code
def yX4_init : MethodName := ⟨RX4, "<init>", "(I)V"⟩
abbrev cX4_has : ByteArray := prog_6_method_2_code
def yX4_has : MethodName := ⟨RX4, "has", "(I)Z"⟩
abbrev cX4_take : ByteArray := prog_6_method_3_code
def yX4_take : MethodName := ⟨RX4, "take", "(LNameNets$Names;)V"⟩
abbrev cX4_isRight : ByteArray := prog_6_method_4_code
def yX4_isRight : MethodName := ⟨RX4, "isRight", "(I)Z"⟩
abbrev cX4_wrongChecks : ByteArray := prog_6_method_5_code
def yX4_wrongChecks : MethodName := ⟨RX4, "wrongChecks", "()I"⟩
abbrev cX4_unlike : ByteArray := prog_6_method_6_code
def yX4_unlike : MethodName := ⟨RX4, "unlike", "(LNameNets$Names;)I"⟩
abbrev cX4_checkOf : ByteArray := prog_6_method_7_code
def yX4_checkOf : MethodName := ⟨RX4, "checkOf", "(I)I"⟩
def RX5 : String := "NameNets$Parcels"
def TX5 : u_T := fun k => match k with
  | 0 => ("NameNets$Parcels", "net", "LNameNets$Net;", true)
  | 1 => ("NameNets$Parcels", "tree", "LNameNets$Tree;", true)
  | 2 => ("NameNets$Parcels", "labels", "LNameNets$Labels;", true)
  | 3 => ("NameNets$Parcels", "upper", "I", false)
  | 4 => ("NameNets$Parcels", "lower", "I", false)
  | 5 => ("NameNets$Parcels", "from", "I", false)
  | 6 => ("NameNets$Parcels", "to", "I", false)
  | _ => ("NameNets$Parcels", "madeAt", "I", false)
def tyX5 : Nat → FieldType := fun k => match k with
  | 0 => .object "NameNets$Net"
  | 1 => .object "NameNets$Tree"
  | 2 => .object "NameNets$Labels"
  | 3 => .int
  | 4 => .int
  | 5 => .int
  | 6 => .int
  | _ => .int
abbrev wsX50 : List Cond := u_ws RX5 TX5 8
theorem nmX5 : ∀ a, a < 8 → ∀ b, b < 8 → a ≠ b → (TX5 a).2.1 ≠ (TX5 b).2.1 := by decide +kernel
theorem tyX5_ok : ∀ k, k < 8 → parseFieldDescriptor (TX5 k).2.2.1 = some (tyX5 k) := by decide +kernel
abbrev cX5_init : ByteArray := prog_7_method_1_code
def yX5_init : MethodName := ⟨RX5, "<init>", "(LNameNets$Net;LNameNets$Tree;LNameNets$Labels;)V"⟩
abbrev cX5_step : ByteArray := prog_7_method_2_code
def yX5_step : MethodName := ⟨RX5, "step", "(II)I"⟩
abbrev cX5_length : ByteArray := prog_7_method_3_code
def yX5_length : MethodName := ⟨RX5, "length", "(II)I"⟩
abbrev cX5_fresh : ByteArray := prog_7_method_4_code
def yX5_fresh : MethodName := ⟨RX5, "fresh", "()LNameNets$Parcels;"⟩
abbrev cX5_findStretch : ByteArray := prog_7_method_5_code
def yX5_findStretch : MethodName := ⟨RX5, "findStretch", "(LNameNets$Names;)V"⟩
abbrev cX5_offer : ByteArray := prog_7_method_6_code
def yX5_offer : MethodName := ⟨RX5, "offer", "(IIII)V"⟩
abbrev cX5_reduce : ByteArray := prog_7_method_7_code
def yX5_reduce : MethodName := ⟨RX5, "reduce", "()V"⟩
def RX6 : String := "NameNets$Script"
def TX6 : u_T := fun k => match k with
  | 0 => ("NameNets$Script", "net", "LNameNets$Net;", true)
  | 1 => ("NameNets$Script", "text", "[B", true)
  | 2 => ("NameNets$Script", "length", "I", false)
  | 3 => ("NameNets$Script", "faultAt", "I", false)
  | 4 => ("NameNets$Script", "faultNumber", "I", false)
  | 5 => ("NameNets$Script", "at", "I", false)
  | 6 => ("NameNets$Script", "questions", "I", false)
  | 7 => ("NameNets$Script", "asked", "[I", true)
  | 8 => ("NameNets$Script", "first", "[I", true)
  | 9 => ("NameNets$Script", "second", "[I", true)
  | 10 => ("NameNets$Script", "failing", "[I", true)
  | 11 => ("NameNets$Script", "answers", "I", false)
  | _ => ("NameNets$Script", "replies", "[I", true)
def tyX6 : Nat → FieldType := fun k => match k with
  | 0 => .object "NameNets$Net"
  | 1 => .array .byte
  | 2 => .int
  | 3 => .int
  | 4 => .int
  | 5 => .int
  | 6 => .int
  | 7 => .array .int
  | 8 => .array .int
  | 9 => .array .int
  | 10 => .array .int
  | 11 => .int
  | _ => .array .int
abbrev wsX60 : List Cond := u_ws RX6 TX6 13
theorem nmX6 : ∀ a, a < 13 → ∀ b, b < 13 → a ≠ b → (TX6 a).2.1 ≠ (TX6 b).2.1 := by decide +kernel
theorem tyX6_ok : ∀ k, k < 13 → parseFieldDescriptor (TX6 k).2.2.1 = some (tyX6 k) := by decide +kernel
abbrev cX6_init : ByteArray := prog_8_method_1_code
def yX6_init : MethodName := ⟨RX6, "<init>", "(LNameNets$Net;)V"⟩
abbrev cX6_append : ByteArray := prog_8_method_2_code
def yX6_append : MethodName := ⟨RX6, "append", "(IJ)I"⟩
abbrev cX6_readAll : ByteArray := prog_8_method_3_code
def yX6_readAll : MethodName := ⟨RX6, "readAll", "()I"⟩
abbrev cX6_fail : ByteArray := prog_8_method_4_code
def yX6_fail : MethodName := ⟨RX6, "fail", "(II)V"⟩
abbrev cX6_skipBlanks : ByteArray := prog_8_method_5_code
def yX6_skipBlanks : MethodName := ⟨RX6, "skipBlanks", "()V"⟩
abbrev cX6_isFigure : ByteArray := prog_8_method_6_code
def yX6_isFigure : MethodName := ⟨RX6, "isFigure", "(I)Z"⟩
abbrev cX6_isLetter : ByteArray := prog_8_method_7_code
def yX6_isLetter : MethodName := ⟨RX6, "isLetter", "(I)Z"⟩
abbrev cX6_readQuestion : ByteArray := prog_8_method_8_code
def yX6_readQuestion : MethodName := ⟨RX6, "readQuestion", "()V"⟩
abbrev cX6_readWord : ByteArray := prog_8_method_9_code
def yX6_readWord : MethodName := ⟨RX6, "readWord", "()I"⟩
abbrev cX6_wordFor : ByteArray := prog_8_method_10_code
def yX6_wordFor : MethodName := ⟨RX6, "wordFor", "(I)Ljava/lang/String;"⟩
abbrev cX6_isWord : ByteArray := prog_8_method_11_code
def yX6_isWord : MethodName := ⟨RX6, "isWord", "(Ljava/lang/String;I)Z"⟩
abbrev cX6_readNumbers : ByteArray := prog_8_method_12_code
def yX6_readNumbers : MethodName := ⟨RX6, "readNumbers", "(I)V"⟩
abbrev cX6_readNumber : ByteArray := prog_8_method_13_code
def yX6_readNumber : MethodName := ⟨RX6, "readNumber", "(I)V"⟩
abbrev cX6_keep : ByteArray := prog_8_method_14_code
def yX6_keep : MethodName := ⟨RX6, "keep", "(II)V"⟩
def RX7 : String := "NameNets$SmallNets"
def TX7 : u_T := fun k => match k with
  | 0 => ("NameNets$SmallNets", "seats", "[I", true)
  | 1 => ("NameNets$SmallNets", "groups", "[I", true)
  | _ => ("NameNets$SmallNets", "chosen", "I", false)
def tyX7 : Nat → FieldType := fun k => match k with
  | 0 => .array .int
  | 1 => .array .int
  | _ => .int
abbrev wsX70 : List Cond := u_ws RX7 TX7 3
theorem nmX7 : ∀ a, a < 3 → ∀ b, b < 3 → a ≠ b → (TX7 a).2.1 ≠ (TX7 b).2.1 := by decide +kernel
theorem tyX7_ok : ∀ k, k < 3 → parseFieldDescriptor (TX7 k).2.2.1 = some (tyX7 k) := by decide +kernel
abbrev cX7_init : ByteArray := prog_9_method_1_code
def yX7_init : MethodName := ⟨RX7, "<init>", "()V"⟩
abbrev cX7_isOne : ByteArray := prog_9_method_2_code
def yX7_isOne : MethodName := ⟨RX7, "isOne", "(II)Z"⟩
abbrev cX7_pairs : ByteArray := prog_9_method_3_code
def yX7_pairs : MethodName := ⟨RX7, "pairs", "(I)I"⟩
abbrev cX7_pairBit : ByteArray := prog_9_method_4_code
def yX7_pairBit : MethodName := ⟨RX7, "pairBit", "(II)I"⟩
abbrev cX7_numberOf : ByteArray := prog_9_method_5_code
def yX7_numberOf : MethodName := ⟨RX7, "numberOf", "(LNameNets$Net;)I"⟩
abbrev cX7_contains : ByteArray := prog_9_method_6_code
def yX7_contains : MethodName := ⟨RX7, "contains", "(IIII)Z"⟩
abbrev cX7_seat : ByteArray := prog_9_method_7_code
def yX7_seat : MethodName := ⟨RX7, "seat", "(IIIII)Z"⟩
abbrev cX7_fits : ByteArray := prog_9_method_8_code
def yX7_fits : MethodName := ⟨RX7, "fits", "(III)Z"⟩
abbrev cX7_countUniversal : ByteArray := prog_9_method_9_code
def yX7_countUniversal : MethodName := ⟨RX7, "countUniversal", "(II)I"⟩
abbrev cX7_leastUniversal : ByteArray := prog_9_method_10_code
def yX7_leastUniversal : MethodName := ⟨RX7, "leastUniversal", "(II)I"⟩
abbrev cX7_chooseGroups : ByteArray := prog_9_method_11_code
def yX7_chooseGroups : MethodName := ⟨RX7, "chooseGroups", "(II)V"⟩
abbrev cX7_pairsWithin : ByteArray := prog_9_method_12_code
def yX7_pairsWithin : MethodName := ⟨RX7, "pairsWithin", "(I)I"⟩
abbrev cX7_isUniversal : ByteArray := prog_9_method_13_code
def yX7_isUniversal : MethodName := ⟨RX7, "isUniversal", "(II)Z"⟩
def RX8 : String := "NameNets$Tree"
def TX8 : u_T := fun k => match k with
  | 0 => ("NameNets$Tree", "net", "LNameNets$Net;", true)
  | 1 => ("NameNets$Tree", "roots", "I", false)
  | 2 => ("NameNets$Tree", "ownLines", "I", false)
  | 3 => ("NameNets$Tree", "above", "[I", true)
  | 4 => ("NameNets$Tree", "root", "[I", true)
  | 5 => ("NameNets$Tree", "path", "[I", true)
  | 6 => ("NameNets$Tree", "enter", "[I", true)
  | 7 => ("NameNets$Tree", "leave", "[I", true)
  | 8 => ("NameNets$Tree", "lineNames", "[I", true)
  | 9 => ("NameNets$Tree", "order", "[I", true)
  | 10 => ("NameNets$Tree", "placed", "I", false)
  | 11 => ("NameNets$Tree", "inside", "I", false)
  | 12 => ("NameNets$Tree", "weight", "[I", true)
  | _ => ("NameNets$Tree", "madeAt", "I", false)
def tyX8 : Nat → FieldType := fun k => match k with
  | 0 => .object "NameNets$Net"
  | 1 => .int
  | 2 => .int
  | 3 => .array .int
  | 4 => .array .int
  | 5 => .array .int
  | 6 => .array .int
  | 7 => .array .int
  | 8 => .array .int
  | 9 => .array .int
  | 10 => .int
  | 11 => .int
  | 12 => .array .int
  | _ => .int
abbrev wsX80 : List Cond := u_ws RX8 TX8 14
theorem nmX8 : ∀ a, a < 14 → ∀ b, b < 14 → a ≠ b → (TX8 a).2.1 ≠ (TX8 b).2.1 := by decide +kernel
theorem tyX8_ok : ∀ k, k < 14 → parseFieldDescriptor (TX8 k).2.2.1 = some (tyX8 k) := by decide +kernel
abbrev cX8_init : ByteArray := prog_10_method_1_code
def yX8_init : MethodName := ⟨RX8, "<init>", "(LNameNets$Net;)V"⟩
abbrev cX8_fresh : ByteArray := prog_10_method_2_code
def yX8_fresh : MethodName := ⟨RX8, "fresh", "()LNameNets$Tree;"⟩
abbrev cX8_depth : ByteArray := prog_10_method_3_code
def yX8_depth : MethodName := ⟨RX8, "depth", "(I)I"⟩
abbrev cX8_isAbove : ByteArray := prog_10_method_4_code
def yX8_isAbove : MethodName := ⟨RX8, "isAbove", "(II)Z"⟩
abbrev cX8_clear : ByteArray := prog_10_method_5_code
def yX8_clear : MethodName := ⟨RX8, "clear", "()V"⟩
abbrev cX8_growFrom : ByteArray := prog_10_method_6_code
def yX8_growFrom : MethodName := ⟨RX8, "growFrom", "(I)V"⟩
abbrev cX8_place : ByteArray := prog_10_method_7_code
def yX8_place : MethodName := ⟨RX8, "place", "(I)V"⟩
abbrev cX8_numberPosts : ByteArray := prog_10_method_8_code
def yX8_numberPosts : MethodName := ⟨RX8, "numberPosts", "()V"⟩
abbrev cX8_nameLines : ByteArray := prog_10_method_9_code
def yX8_nameLines : MethodName := ⟨RX8, "nameLines", "()V"⟩
def RX9 : String := "NameNets"
def TX9 : u_T := fun k => match k with
  | 0 => ("NameNets", "graph", "LNameNets$Net;", true)
  | 1 => ("NameNets", "tree", "LNameNets$Tree;", true)
  | 2 => ("NameNets", "labels", "LNameNets$Labels;", true)
  | 3 => ("NameNets", "pages", "[LNameNets$Page;", true)
  | 4 => ("NameNets", "parcels", "LNameNets$Parcels;", true)
  | 5 => ("NameNets", "cuts", "LNameNets$Cuts;", true)
  | 6 => ("NameNets", "smallNets", "LNameNets$SmallNets;", true)
  | _ => ("NameNets", "script", "LNameNets$Script;", true)
def tyX9 : Nat → FieldType := fun k => match k with
  | 0 => .object "NameNets$Net"
  | 1 => .object "NameNets$Tree"
  | 2 => .object "NameNets$Labels"
  | 3 => .array (.object "NameNets$Page")
  | 4 => .object "NameNets$Parcels"
  | 5 => .object "NameNets$Cuts"
  | 6 => .object "NameNets$SmallNets"
  | _ => .object "NameNets$Script"
abbrev wsX90 : List Cond := u_ws RX9 TX9 8
theorem nmX9 : ∀ a, a < 8 → ∀ b, b < 8 → a ≠ b → (TX9 a).2.1 ≠ (TX9 b).2.1 := by decide +kernel
theorem tyX9_ok : ∀ k, k < 8 → parseFieldDescriptor (TX9 k).2.2.1 = some (tyX9 k) := by decide +kernel
abbrev cX9_init : ByteArray := prog_1_method_1_code
def yX9_init : MethodName := ⟨RX9, "<init>", "()V"⟩
abbrev cX9_net : ByteArray := prog_1_method_2_code
def yX9_net : MethodName := ⟨RX9, "net", "(I)I"⟩
abbrev cX9_post : ByteArray := prog_1_method_3_code
def yX9_post : MethodName := ⟨RX9, "post", "()I"⟩
abbrev cX9_line : ByteArray := prog_1_method_4_code
def yX9_line : MethodName := ⟨RX9, "line", "(II)I"⟩
abbrev cX9_strike : ByteArray := prog_1_method_5_code
def yX9_strike : MethodName := ⟨RX9, "strike", "(I)I"⟩
abbrev cX9_count : ByteArray := prog_1_method_6_code
def yX9_count : MethodName := ⟨RX9, "count", "(I)I"⟩
abbrev cX9_told : ByteArray := prog_1_method_7_code
def yX9_told : MethodName := ⟨RX9, "told", "(II)I"⟩
abbrev cX9_lines : ByteArray := prog_1_method_8_code
def yX9_lines : MethodName := ⟨RX9, "lines", "(II)I"⟩
abbrev cX9_name : ByteArray := prog_1_method_9_code
def yX9_name : MethodName := ⟨RX9, "name", "(III)I"⟩
abbrev cX9_bits : ByteArray := prog_1_method_10_code
def yX9_bits : MethodName := ⟨RX9, "bits", "(II)I"⟩
abbrev cX9_ask : ByteArray := prog_1_method_11_code
def yX9_ask : MethodName := ⟨RX9, "ask", "(III)I"⟩
abbrev cX9_parted : ByteArray := prog_1_method_12_code
def yX9_parted : MethodName := ⟨RX9, "parted", "(III)I"⟩
abbrev cX9_learn : ByteArray := prog_1_method_13_code
def yX9_learn : MethodName := ⟨RX9, "learn", "(I)I"⟩
abbrev cX9_forge : ByteArray := prog_1_method_14_code
def yX9_forge : MethodName := ⟨RX9, "forge", "(IIII)I"⟩
abbrev cX9_book : ByteArray := prog_1_method_15_code
def yX9_book : MethodName := ⟨RX9, "book", "(III)I"⟩
abbrev cX9_answer : ByteArray := prog_1_method_16_code
def yX9_answer : MethodName := ⟨RX9, "answer", "(III)I"⟩
abbrev cX9_stale : ByteArray := prog_1_method_17_code
def yX9_stale : MethodName := ⟨RX9, "stale", "(I)I"⟩
abbrev cX9_damaged : ByteArray := prog_1_method_18_code
def yX9_damaged : MethodName := ⟨RX9, "damaged", "(I)I"⟩
abbrev cX9_next : ByteArray := prog_1_method_19_code
def yX9_next : MethodName := ⟨RX9, "next", "(II)I"⟩
abbrev cX9_goes : ByteArray := prog_1_method_20_code
def yX9_goes : MethodName := ⟨RX9, "goes", "(II)I"⟩
abbrev cX9_stretch : ByteArray := prog_1_method_21_code
def yX9_stretch : MethodName := ⟨RX9, "stretch", "(I)I"⟩
abbrev cX9_cut : ByteArray := prog_1_method_22_code
def yX9_cut : MethodName := ⟨RX9, "cut", "(II)I"⟩
abbrev cX9_ways : ByteArray := prog_1_method_23_code
def yX9_ways : MethodName := ⟨RX9, "ways", "(II)I"⟩
abbrev cX9_holds : ByteArray := prog_1_method_24_code
def yX9_holds : MethodName := ⟨RX9, "holds", "(IIII)I"⟩
abbrev cX9_universal : ByteArray := prog_1_method_25_code
def yX9_universal : MethodName := ⟨RX9, "universal", "(III)I"⟩
abbrev cX9_small : ByteArray := prog_1_method_26_code
def yX9_small : MethodName := ⟨RX9, "small", "()I"⟩
abbrev cX9_feed : ByteArray := prog_1_method_27_code
def yX9_feed : MethodName := ⟨RX9, "feed", "(IJ)I"⟩
abbrev cX9_read : ByteArray := prog_1_method_28_code
def yX9_read : MethodName := ⟨RX9, "read", "()I"⟩
abbrev cX9_fault : ByteArray := prog_1_method_29_code
def yX9_fault : MethodName := ⟨RX9, "fault", "()I"⟩
abbrev cX9_said : ByteArray := prog_1_method_30_code
def yX9_said : MethodName := ⟨RX9, "said", "(I)I"⟩
abbrev cX9_isNamedKind : ByteArray := prog_1_method_31_code
def yX9_isNamedKind : MethodName := ⟨RX9, "isNamedKind", "(I)Z"⟩
abbrev cX9_kindsLearned : ByteArray := prog_1_method_32_code
def yX9_kindsLearned : MethodName := ⟨RX9, "kindsLearned", "()I"⟩
abbrev cX9_replyTo : ByteArray := prog_1_method_33_code
def yX9_replyTo : MethodName := ⟨RX9, "replyTo", "(IIII)I"⟩
abbrev cX9_bitsOf : ByteArray := prog_1_method_34_code
def yX9_bitsOf : MethodName := ⟨RX9, "bitsOf", "(II)I"⟩
def RX10 : String := "NameNetsModel"
def TX10 : u_T := fun k => match k with
  | 0 => ("NameNetsModel", "posts", "I", false)
  | 1 => ("NameNetsModel", "lineMany", "I", false)
  | 2 => ("NameNetsModel", "endA", "[I", true)
  | 3 => ("NameNetsModel", "endB", "[I", true)
  | 4 => ("NameNetsModel", "above", "[I", true)
  | 5 => ("NameNetsModel", "rootOf", "[I", true)
  | 6 => ("NameNetsModel", "deep", "[I", true)
  | 7 => ("NameNetsModel", "upLine", "[I", true)
  | 8 => ("NameNetsModel", "queue", "[I", true)
  | 9 => ("NameNetsModel", "roots", "I", false)
  | 10 => ("NameNetsModel", "treeLines", "I", false)
  | 11 => ("NameNetsModel", "enter", "[I", true)
  | 12 => ("NameNetsModel", "leave", "[I", true)
  | 13 => ("NameNetsModel", "turn", "[I", true)
  | 14 => ("NameNetsModel", "rank", "[I", true)
  | 15 => ("NameNetsModel", "size", "[I", true)
  | 16 => ("NameNetsModel", "name", "[I", true)
  | 17 => ("NameNetsModel", "stack", "[I", true)
  | 18 => ("NameNetsModel", "way", "[I", true)
  | 19 => ("NameNetsModel", "failing", "[I", true)
  | 20 => ("NameNetsModel", "isLearned", "[Z", true)
  | 21 => ("NameNetsModel", "bookPosts", "[I", true)
  | 22 => ("NameNetsModel", "bookSize", "[I", true)
  | 23 => ("NameNetsModel", "bookName", "[I", true)
  | 24 => ("NameNetsModel", "check", "[I", true)
  | 25 => ("NameNetsModel", "gone", "[I", true)
  | 26 => ("NameNetsModel", "by", "[I", true)
  | 27 => ("NameNetsModel", "pick", "[I", true)
  | 28 => ("NameNetsModel", "text", "[I", true)
  | 29 => ("NameNetsModel", "textSize", "I", false)
  | 30 => ("NameNetsModel", "at", "I", false)
  | 31 => ("NameNetsModel", "faultOf", "I", false)
  | 32 => ("NameNetsModel", "place", "I", false)
  | 33 => ("NameNetsModel", "from", "I", false)
  | 34 => ("NameNetsModel", "letters", "I", false)
  | 35 => ("NameNetsModel", "answers", "I", false)
  | 36 => ("NameNetsModel", "said", "[I", true)
  | 37 => ("NameNetsModel", "draft", "[I", true)
  | 38 => ("NameNetsModel", "drafts", "I", false)
  | _ => ("NameNetsModel", "asked", "[I", true)
def tyX10 : Nat → FieldType := fun k => match k with
  | 0 => .int
  | 1 => .int
  | 2 => .array .int
  | 3 => .array .int
  | 4 => .array .int
  | 5 => .array .int
  | 6 => .array .int
  | 7 => .array .int
  | 8 => .array .int
  | 9 => .int
  | 10 => .int
  | 11 => .array .int
  | 12 => .array .int
  | 13 => .array .int
  | 14 => .array .int
  | 15 => .array .int
  | 16 => .array .int
  | 17 => .array .int
  | 18 => .array .int
  | 19 => .array .int
  | 20 => .array .boolean
  | 21 => .array .int
  | 22 => .array .int
  | 23 => .array .int
  | 24 => .array .int
  | 25 => .array .int
  | 26 => .array .int
  | 27 => .array .int
  | 28 => .array .int
  | 29 => .int
  | 30 => .int
  | 31 => .int
  | 32 => .int
  | 33 => .int
  | 34 => .int
  | 35 => .int
  | 36 => .array .int
  | 37 => .array .int
  | 38 => .int
  | _ => .array .int
abbrev wsX100 : List Cond := u_ws RX10 TX10 40
theorem nmX10 : ∀ a, a < 40 → ∀ b, b < 40 → a ≠ b → (TX10 a).2.1 ≠ (TX10 b).2.1 := by decide +kernel
theorem tyX10_ok : ∀ k, k < 40 → parseFieldDescriptor (TX10 k).2.2.1 = some (tyX10 k) := by decide +kernel
abbrev cX10_init : ByteArray := prog_12_method_1_code
def yX10_init : MethodName := ⟨RX10, "<init>", "()V"⟩
abbrev cX10_in : ByteArray := prog_12_method_3_code
def yX10_in : MethodName := ⟨RX10, "in", "(JJJ)Z"⟩
abbrev cX10_bit : ByteArray := prog_12_method_4_code
def yX10_bit : MethodName := ⟨RX10, "bit", "(Z)I"⟩
abbrev cX10_ones : ByteArray := prog_12_method_5_code
def yX10_ones : MethodName := ⟨RX10, "ones", "(I)I"⟩
abbrev cX10_noPost : ByteArray := prog_12_method_6_code
def yX10_noPost : MethodName := ⟨RX10, "noPost", "(I)Z"⟩
abbrev cX10_noLine : ByteArray := prog_12_method_7_code
def yX10_noLine : MethodName := ⟨RX10, "noLine", "(I)Z"⟩
abbrev cX10_lineOf : ByteArray := prog_12_method_8_code
def yX10_lineOf : MethodName := ⟨RX10, "lineOf", "(II)I"⟩
abbrev cX10_degree : ByteArray := prog_12_method_9_code
def yX10_degree : MethodName := ⟨RX10, "degree", "(I)I"⟩
abbrev cX10_net : ByteArray := prog_12_method_10_code
def yX10_net : MethodName := ⟨RX10, "net", "(I)I"⟩
abbrev cX10_post : ByteArray := prog_12_method_11_code
def yX10_post : MethodName := ⟨RX10, "post", "()I"⟩
abbrev cX10_line : ByteArray := prog_12_method_12_code
def yX10_line : MethodName := ⟨RX10, "line", "(II)I"⟩
abbrev cX10_strike : ByteArray := prog_12_method_13_code
def yX10_strike : MethodName := ⟨RX10, "strike", "(I)I"⟩
abbrev cX10_findTree : ByteArray := prog_12_method_14_code
def yX10_findTree : MethodName := ⟨RX10, "findTree", "()V"⟩
abbrev cX10_grow : ByteArray := prog_12_method_15_code
def yX10_grow : MethodName := ⟨RX10, "grow", "(I)V"⟩
abbrev cX10_isTreeLine : ByteArray := prog_12_method_16_code
def yX10_isTreeLine : MethodName := ⟨RX10, "isTreeLine", "(I)Z"⟩
abbrev cX10_wayUp : ByteArray := prog_12_method_17_code
def yX10_wayUp : MethodName := ⟨RX10, "wayUp", "(I)I"⟩
abbrev cX10_findSpans : ByteArray := prog_12_method_18_code
def yX10_findSpans : MethodName := ⟨RX10, "findSpans", "()V"⟩
abbrev cX10_goDown : ByteArray := prog_12_method_19_code
def yX10_goDown : MethodName := ⟨RX10, "goDown", "(II)I"⟩
abbrev cX10_findTurns : ByteArray := prog_12_method_20_code
def yX10_findTurns : MethodName := ⟨RX10, "findTurns", "()V"⟩
abbrev cX10_findRanks : ByteArray := prog_12_method_21_code
def yX10_findRanks : MethodName := ⟨RX10, "findRanks", "()V"⟩
abbrev cX10_put : ByteArray := prog_12_method_22_code
def yX10_put : MethodName := ⟨RX10, "put", "(II)V"⟩
abbrev cX10_farOf : ByteArray := prog_12_method_23_code
def yX10_farOf : MethodName := ⟨RX10, "farOf", "(II)I"⟩
abbrev cX10_goFrom : ByteArray := prog_12_method_24_code
def yX10_goFrom : MethodName := ⟨RX10, "goFrom", "(I)V"⟩
abbrev cX10_findHubs : ByteArray := prog_12_method_25_code
def yX10_findHubs : MethodName := ⟨RX10, "findHubs", "()V"⟩
abbrev cX10_findRows : ByteArray := prog_12_method_26_code
def yX10_findRows : MethodName := ⟨RX10, "findRows", "()V"⟩
abbrev cX10_findNames : ByteArray := prog_12_method_27_code
def yX10_findNames : MethodName := ⟨RX10, "findNames", "(I)V"⟩
abbrev cX10_count : ByteArray := prog_12_method_28_code
def yX10_count : MethodName := ⟨RX10, "count", "(I)I"⟩
abbrev cX10_told : ByteArray := prog_12_method_29_code
def yX10_told : MethodName := ⟨RX10, "told", "(II)I"⟩
abbrev cX10_lineName : ByteArray := prog_12_method_30_code
def yX10_lineName : MethodName := ⟨RX10, "lineName", "(I)I"⟩
abbrev cX10_lines : ByteArray := prog_12_method_31_code
def yX10_lines : MethodName := ⟨RX10, "lines", "(II)I"⟩
abbrev cX10_name : ByteArray := prog_12_method_32_code
def yX10_name : MethodName := ⟨RX10, "name", "(III)I"⟩
abbrev cX10_bitsOf : ByteArray := prog_12_method_33_code
def yX10_bitsOf : MethodName := ⟨RX10, "bitsOf", "(II)I"⟩
abbrev cX10_bits : ByteArray := prog_12_method_34_code
def yX10_bits : MethodName := ⟨RX10, "bits", "(II)I"⟩
abbrev cX10_sayOf : ByteArray := prog_12_method_35_code
def yX10_sayOf : MethodName := ⟨RX10, "sayOf", "(III)I"⟩
abbrev cX10_ask : ByteArray := prog_12_method_36_code
def yX10_ask : MethodName := ⟨RX10, "ask", "(III)I"⟩
abbrev cX10_isParted : ByteArray := prog_12_method_37_code
def yX10_isParted : MethodName := ⟨RX10, "isParted", "(III)Z"⟩
abbrev cX10_parted : ByteArray := prog_12_method_38_code
def yX10_parted : MethodName := ⟨RX10, "parted", "(III)I"⟩
abbrev cX10_bookAt : ByteArray := prog_12_method_39_code
def yX10_bookAt : MethodName := ⟨RX10, "bookAt", "(II)I"⟩
abbrev cX10_isInBook : ByteArray := prog_12_method_40_code
def yX10_isInBook : MethodName := ⟨RX10, "isInBook", "(II)Z"⟩
abbrev cX10_checkOf : ByteArray := prog_12_method_41_code
def yX10_checkOf : MethodName := ⟨RX10, "checkOf", "(II)I"⟩
abbrev cX10_isStale : ByteArray := prog_12_method_42_code
def yX10_isStale : MethodName := ⟨RX10, "isStale", "(II)Z"⟩
abbrev cX10_staleSet : ByteArray := prog_12_method_43_code
def yX10_staleSet : MethodName := ⟨RX10, "staleSet", "(I)I"⟩
abbrev cX10_learn : ByteArray := prog_12_method_44_code
def yX10_learn : MethodName := ⟨RX10, "learn", "(I)I"⟩
abbrev cX10_forge : ByteArray := prog_12_method_45_code
def yX10_forge : MethodName := ⟨RX10, "forge", "(IIII)I"⟩
abbrev cX10_book : ByteArray := prog_12_method_46_code
def yX10_book : MethodName := ⟨RX10, "book", "(III)I"⟩
abbrev cX10_isDamaged : ByteArray := prog_12_method_47_code
def yX10_isDamaged : MethodName := ⟨RX10, "isDamaged", "(II)Z"⟩
abbrev cX10_answer : ByteArray := prog_12_method_48_code
def yX10_answer : MethodName := ⟨RX10, "answer", "(III)I"⟩
abbrev cX10_stale : ByteArray := prog_12_method_49_code
def yX10_stale : MethodName := ⟨RX10, "stale", "(I)I"⟩
abbrev cX10_damaged : ByteArray := prog_12_method_50_code
def yX10_damaged : MethodName := ⟨RX10, "damaged", "(I)I"⟩
abbrev cX10_nextOf : ByteArray := prog_12_method_51_code
def yX10_nextOf : MethodName := ⟨RX10, "nextOf", "(II)I"⟩
abbrev cX10_next : ByteArray := prog_12_method_52_code
def yX10_next : MethodName := ⟨RX10, "next", "(II)I"⟩
abbrev cX10_goesOf : ByteArray := prog_12_method_53_code
def yX10_goesOf : MethodName := ⟨RX10, "goesOf", "(II)I"⟩
abbrev cX10_goes : ByteArray := prog_12_method_54_code
def yX10_goes : MethodName := ⟨RX10, "goes", "(II)I"⟩
abbrev cX10_findWays : ByteArray := prog_12_method_55_code
def yX10_findWays : MethodName := ⟨RX10, "findWays", "(I)V"⟩
abbrev cX10_stretch : ByteArray := prog_12_method_56_code
def yX10_stretch : MethodName := ⟨RX10, "stretch", "(I)I"⟩
abbrev cX10_cut : ByteArray := prog_12_method_57_code
def yX10_cut : MethodName := ⟨RX10, "cut", "(II)I"⟩
abbrev cX10_oneMore : ByteArray := prog_12_method_58_code
def yX10_oneMore : MethodName := ⟨RX10, "oneMore", "(II)Z"⟩
abbrev cX10_ways : ByteArray := prog_12_method_59_code
def yX10_ways : MethodName := ⟨RX10, "ways", "(II)I"⟩
abbrev cX10_pairs : ByteArray := prog_12_method_60_code
def yX10_pairs : MethodName := ⟨RX10, "pairs", "(I)I"⟩
abbrev cX10_joined : ByteArray := prog_12_method_61_code
def yX10_joined : MethodName := ⟨RX10, "joined", "(III)I"⟩
abbrev cX10_isPick : ByteArray := prog_12_method_62_code
def yX10_isPick : MethodName := ⟨RX10, "isPick", "(IIIII)Z"⟩
abbrev cX10_holdsOne : ByteArray := prog_12_method_63_code
def yX10_holdsOne : MethodName := ⟨RX10, "holdsOne", "(IIII)Z"⟩
abbrev cX10_holds : ByteArray := prog_12_method_64_code
def yX10_holds : MethodName := ⟨RX10, "holds", "(IIII)I"⟩
abbrev cX10_isUniversal : ByteArray := prog_12_method_65_code
def yX10_isUniversal : MethodName := ⟨RX10, "isUniversal", "(III)Z"⟩
abbrev cX10_universal : ByteArray := prog_12_method_66_code
def yX10_universal : MethodName := ⟨RX10, "universal", "(III)I"⟩
abbrev cX10_small : ByteArray := prog_12_method_67_code
def yX10_small : MethodName := ⟨RX10, "small", "()I"⟩
abbrev cX10_feed : ByteArray := prog_12_method_68_code
def yX10_feed : MethodName := ⟨RX10, "feed", "(IJ)I"⟩
abbrev cX10_here : ByteArray := prog_12_method_69_code
def yX10_here : MethodName := ⟨RX10, "here", "()I"⟩
abbrev cX10_want : ByteArray := prog_12_method_70_code
def yX10_want : MethodName := ⟨RX10, "want", "(ZII)Z"⟩
abbrev cX10_isWord : ByteArray := prog_12_method_71_code
def yX10_isWord : MethodName := ⟨RX10, "isWord", "(IIIIIII)Z"⟩
abbrev cX10_takeQuestion : ByteArray := prog_12_method_72_code
def yX10_takeQuestion : MethodName := ⟨RX10, "takeQuestion", "()I"⟩
abbrev cX10_takeNumber : ByteArray := prog_12_method_73_code
def yX10_takeNumber : MethodName := ⟨RX10, "takeNumber", "(I)V"⟩
abbrev cX10_answerOf : ByteArray := prog_12_method_74_code
def yX10_answerOf : MethodName := ⟨RX10, "answerOf", "(II)I"⟩
abbrev cX10_readQuestion : ByteArray := prog_12_method_75_code
def yX10_readQuestion : MethodName := ⟨RX10, "readQuestion", "()V"⟩
abbrev cX10_read : ByteArray := prog_12_method_76_code
def yX10_read : MethodName := ⟨RX10, "read", "()I"⟩
abbrev cX10_fault : ByteArray := prog_12_method_77_code
def yX10_fault : MethodName := ⟨RX10, "fault", "()I"⟩
abbrev cX10_said : ByteArray := prog_12_method_78_code
def yX10_said : MethodName := ⟨RX10, "said", "(I)I"⟩
def RJ6 : String := "java/lang/Integer"
def TJ6 : u_T := fun k => match k with
  | _ => ("", "", "", false)
def tyJ6 : Nat → FieldType := fun k => match k with
  | _ => .int
abbrev wsJ60 : List Cond := u_ws RJ6 TJ6 0
abbrev cJ6_bitCount_0f7a4 : ByteArray := prog_13_method_49_code
def yJ6_bitCount_0f7a4 : MethodName := ⟨RJ6, "bitCount", "(I)I"⟩
def RJ9 : String := "java/lang/Math"
def TJ9 : u_T := fun k => match k with
  | _ => ("", "", "", false)
def tyJ9 : Nat → FieldType := fun k => match k with
  | _ => .int
abbrev wsJ90 : List Cond := u_ws RJ9 TJ9 0
abbrev cJ9_max_7cf53 : ByteArray := prog_14_method_65_code
def yJ9_max_7cf53 : MethodName := ⟨RJ9, "max", "(II)I"⟩
abbrev cJ9_min_7cf53 : ByteArray := prog_14_method_69_code
def yJ9_min_7cf53 : MethodName := ⟨RJ9, "min", "(II)I"⟩
def RJ0 : String := "java/lang/String"
def TJ0 : u_T := fun k => match k with
  | _ => ("", "", "", false)
def tyJ0 : Nat → FieldType := fun k => match k with
  | _ => .int
abbrev wsJ00 : List Cond := u_ws RJ0 TJ0 0
abbrev cJ0_length_8abf5 : ByteArray := prog_15_method_54_code
def yJ0_length_8abf5 : MethodName := ⟨RJ0, "length", "()I"⟩
abbrev cJ0_charAt_5068e : ByteArray := prog_15_method_56_code
def yJ0_charAt_5068e : MethodName := ⟨RJ0, "charAt", "(I)C"⟩
abbrev cJ0_coder_7d493 : ByteArray := prog_15_method_152_code
def yJ0_coder_7d493 : MethodName := ⟨RJ0, "coder", "()B"⟩
abbrev cJ0_isLatin1_aae02 : ByteArray := prog_15_method_154_code
def yJ0_isLatin1_aae02 : MethodName := ⟨RJ0, "isLatin1", "()Z"⟩
abbrev cJ0_checkIndex_df160 : ByteArray := prog_15_method_155_code
def yJ0_checkIndex_df160 : MethodName := ⟨RJ0, "checkIndex", "(II)V"⟩
def RJ1 : String := "java/lang/StringLatin1"
def TJ1 : u_T := fun k => match k with
  | _ => ("", "", "", false)
def tyJ1 : Nat → FieldType := fun k => match k with
  | _ => .int
abbrev wsJ10 : List Cond := u_ws RJ1 TJ1 0
abbrev cJ1_charAt_3b067 : ByteArray := prog_16_method_2_code
def yJ1_charAt_3b067 : MethodName := ⟨RJ1, "charAt", "([BI)C"⟩
def RJ2 : String := "java/lang/StringUTF16"
def TJ2 : u_T := fun k => match k with
  | _ => ("", "", "", false)
def tyJ2 : Nat → FieldType := fun k => match k with
  | _ => .int
abbrev wsJ20 : List Cond := u_ws RJ2 TJ2 0
abbrev cJ2_getChar_3b067 : ByteArray := prog_17_method_5_code
def yJ2_getChar_3b067 : MethodName := ⟨RJ2, "getChar", "([BI)C"⟩
abbrev cJ2_length_9d52b : ByteArray := prog_17_method_6_code
def yJ2_length_9d52b : MethodName := ⟨RJ2, "length", "([B)I"⟩
abbrev cJ2_charAt_3b067 : ByteArray := prog_17_method_83_code
def yJ2_charAt_3b067 : MethodName := ⟨RJ2, "charAt", "([BI)C"⟩
abbrev cJ2_checkIndex_2214a : ByteArray := prog_17_method_91_code
def yJ2_checkIndex_2214a : MethodName := ⟨RJ2, "checkIndex", "(I[B)V"⟩
def RJ10 : String := "java/lang/System"
def TJ10 : u_T := fun k => match k with
  | _ => ("", "", "", false)
def tyJ10 : Nat → FieldType := fun k => match k with
  | _ => .int
abbrev wsJ100 : List Cond := u_ws RJ10 TJ10 0
def RJ7 : String := "java/util/Arrays"
def TJ7 : u_T := fun k => match k with
  | _ => ("", "", "", false)
def tyJ7 : Nat → FieldType := fun k => match k with
  | _ => .int
abbrev wsJ70 : List Cond := u_ws RJ7 TJ7 0
abbrev cJ7_fill_53178 : ByteArray := prog_19_method_103_code
def yJ7_fill_53178 : MethodName := ⟨RJ7, "fill", "([II)V"⟩
def RJ3 : String := "jdk/internal/util/Preconditions"
def TJ3 : u_T := fun k => match k with
  | _ => ("", "", "", false)
def tyJ3 : Nat → FieldType := fun k => match k with
  | _ => .int
abbrev wsJ30 : List Cond := u_ws RJ3 TJ3 0
abbrev cJ3_checkIndex_8e157 : ByteArray := prog_20_method_11_code
def yJ3_checkIndex_8e157 : MethodName := ⟨RJ3, "checkIndex", "(IILjava/util/function/BiFunction;)I"⟩
def RL : String := "NameNetsLaw"
abbrev cL_law : ByteArray := code
def yL_law : MethodName := ⟨RL, "law", "([I)Z"⟩
abbrev vwCl : List vw_C := [(RX0, TX0, 5), (RX1, TX1, 10), (RX2, TX2, 5), (RX3, TX3, 6), (RX4, TX4, 3), (RX5, TX5, 8), (RX6, TX6, 13), (RX7, TX7, 3), (RX8, TX8, 14), (RX9, TX9, 8), (RX10, TX10, 40)]
